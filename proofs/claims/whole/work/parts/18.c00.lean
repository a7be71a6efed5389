section ZX
def f_X9_bytesOf_L5 (ex : Int32 → Int32 → zS → Option (Int32 × zS)) (i0 : Int32) : Nat → Int32 → Int32 → zS → Option (Int32 × zS)
  | 0, _, _, _ => none
  | k + 1, x1, x2, S =>
    if x2 < 0 then
    ex x1 x2 S
    else
    zl (fun (q4 : Int32) =>
    zl (x2 + (-8)) fun (y5 : Int32) =>
    f_X9_bytesOf_L5 ex i0 k q4 y5 S) fun J3 =>
    if (((i0.toUInt32 >>> (x2.toUInt32 &&& Int32.toUInt32 31)).toInt32) &&& 255) = 0 then
    J3 x1
    else
    zl (x1 + 1) fun (y6 : Int32) =>
    J3 y6
def f_X9_bytesOf (v0 : Int32) (S : zS) : Option (Int32 × zS) :=
f_X9_bytesOf_L5 (fun (q8 : Int32) (q9 : Int32) (S7 : zS) =>
some (q8, S7)) v0 zN 0 24 S
theorem w_X9_bytesOf_L5 {L : Nat} {xs : Nat → Int32} {fm : Bool} {h0 : Nat → va_E} {t : Nat × Nat × Nat} (hn1 : 64 ≤ t.1) (hn2 : t.1 ≤ 1000000) (d : Nat) {ex : Int32 → Int32 → zS → Option (Int32 × zS)} {i0 : Int32} {R : Int32 × zS} (hex : ∀ (x1 : Int32) (x2 : Int32) (S : zS) (h : Nat → va_E), zE (zDc t.1) h0 S (h, t) → ex x1 x2 S = some R → zW (ia_P0 L xs fm) ia_nx (d + 0) 9 false cX9_bytesOf 3 (some .int) 28 [(0, .int i0), (1, .int x1), (2, .int x2)] [] (h, t) (zQi (zDc t.1) h0 t R)) : ∀ (k : Nat) (x1 : Int32) (x2 : Int32) (S : zS) (h : Nat → va_E), zE (zDc t.1) h0 S (h, t) → f_X9_bytesOf_L5 ex i0 k x1 x2 S = some R → zW (ia_P0 L xs fm) ia_nx (d + 0) 9 false cX9_bytesOf 3 (some .int) 5 [(0, .int i0), (1, .int x1), (2, .int x2)] [] (h, t) (zQi (zDc t.1) h0 t R) := by
  intro k
  induction k with
  | zero => intro x1 x2 S h hE hf; cases hf
  | succ k ih =>
    intro x1 x2 S h hE hf
    unfold f_X9_bytesOf_L5 at hf
    refine z_iload_n dX9_bytesOf_5 rfl ?_
    by_cases c1 : x2 < 0
    · have hf := zif_t hf c1
      refine z_if_lt_t (tgt := 28) dX9_bytesOf_6 (by decide) c1 ?_
      exact zW.sub (hex x1 x2 S _ hE hf) [0, 1, 2] rfl rfl rfl rfl
    · have hf := zif_f hf c1
      refine z_if_lt_f (tgt := 28) dX9_bytesOf_6 (by decide) c1 ?_
      refine z_iload_n dX9_bytesOf_9 rfl ?_
      refine z_iload_n dX9_bytesOf_10 rfl ?_
      refine z_iushr dX9_bytesOf_11 ?_
      refine z_sipush (v := 255) dX9_bytesOf_12 (by decide) ?_
      refine z_iand dX9_bytesOf_15 ?_
      obtain ⟨J3, eJ3, hf⟩ := zl_some hf
      have hJ3 : ∀ (q4 : Int32) (h : Nat → va_E), zE (zDc t.1) h0 S (h, t) → J3 q4 = some R → zW (ia_P0 L xs fm) ia_nx (d + 0) 9 false cX9_bytesOf 3 (some .int) 22 [(0, .int i0), (1, .int q4), (2, .int x2)] [] (h, t) (zQi (zDc t.1) h0 t R) := by
        intro q4 h hE hf
        rw [eJ3] at hf
        obtain ⟨y5, ey5, hf⟩ := zl_some hf
        refine z_iincY (v := (-8)) (y := y5) (lv' := [(2, .int y5), (0, .int i0), (1, .int q4)]) dX9_bytesOf_22 rfl (by decide) (by decide) ey5 rfl ?_
        refine z_goto (tgt := 5) dX9_bytesOf_25 (by decide) ?_
        exact zW.sub (ih q4 y5 S _ hE hf) [1, 2, 0] rfl rfl rfl rfl
      by_cases c2 : (((i0.toUInt32 >>> (x2.toUInt32 &&& Int32.toUInt32 31)).toInt32) &&& 255) = 0
      · have hf := zif_t hf c2
        refine z_if_eq_t (tgt := 22) dX9_bytesOf_16 (by decide) c2 ?_
        exact zW.sub (hJ3 x1 _ hE hf) [0, 1, 2] rfl rfl rfl rfl
      · have hf := zif_f hf c2
        refine z_if_eq_f (tgt := 22) dX9_bytesOf_16 (by decide) c2 ?_
        obtain ⟨y6, ey6, hf⟩ := zl_some hf
        refine z_iincY (v := 1) (y := y6) (lv' := [(1, .int y6), (0, .int i0), (2, .int x2)]) dX9_bytesOf_19 rfl (by decide) (by decide) ey6 rfl ?_
        exact zW.sub (hJ3 y6 _ hE hf) [1, 0, 2] rfl rfl rfl rfl
theorem w_X9_bytesOf {L : Nat} {xs : Nat → Int32} {fm : Bool} {h0 : Nat → va_E} {t : Nat × Nat × Nat} (hn1 : 64 ≤ t.1) (hn2 : t.1 ≤ 1000000) (d : Nat) {h : Nat → va_E} {S : zS} (hE : zE (zDc t.1) h0 S (h, t)) {v0 : Int32} {R : Int32 × zS} (hf : f_X9_bytesOf v0 S = some R) : zC (ia_P0 L xs fm) (d + 1) 9001 [.int v0] (h, t) (zQi (zDc t.1) h0 t R) := by
  refine zC_of mt_9001 nn_9001 (Nat.le_of_ble_eq_true rfl) ?_
  refine zW_lv (lv' := [(0, .int v0)]) rfl ?_
  unfold f_X9_bytesOf at hf
  refine z_iconst (v := 0) dX9_bytesOf_0 (by decide) ?_
  refine z_istore_n (lv' := [(1, .int 0), (0, .int v0)]) dX9_bytesOf_1 (by decide) rfl ?_
  refine z_bipush (v := 24) dX9_bytesOf_2 (by decide) ?_
  refine z_istore_n (lv' := [(2, .int 24), (1, .int 0), (0, .int v0)]) dX9_bytesOf_4 (by decide) rfl ?_
  refine zW.sub (w_X9_bytesOf_L5 hn1 hn2 d (fun q8 q9 S7 h hE hf => ?_) zN 0 24 S h hE hf) [2, 1, 0] rfl rfl rfl rfl
  try dsimp only at hf
  refine z_iload_n dX9_bytesOf_28 rfl ?_
  have e_ := Option.some.inj hf
  subst e_
  exact z_ireturn dX9_bytesOf_29 rfl ⟨h, rfl, rfl, hE⟩
def f_X9_add_L3 (ex : Int32 → zS → Option (Unit × zS)) (i1 : Int32) : Nat → Int32 → zS → Option (Unit × zS)
  | 0, _, _ => none
  | k + 1, x2, S =>
    if x2 < 0 then
    ex x2 S
    else
    zl (((i1.toUInt32 >>> (x2.toUInt32 &&& Int32.toUInt32 31)).toInt32) &&& 255) fun (y2 : Int32) =>
    zl (fun (S5 : zS) =>
    zl (x2 + (-8)) fun (y6 : Int32) =>
    f_X9_add_L3 ex i1 k y6 S5) fun J4 =>
    if y2 = 0 then
    J4 S
    else
    if 200 ≤ (S.1 1 1) then
    J4 S
    else
    if ia_in (S.1 1 1) 200 = true then
    zl (sV S 2 ((S.1 1 1).toNatClampNeg) y2) fun S9 =>
    zl (sV S9 1 1 ((S9.1 1 1) + 1)) fun S10 =>
    J4 S10
    else none
def f_X9_add (v1 : Int32) (S : zS) : Option (Unit × zS) :=
f_X9_add_L3 (fun (q12 : Int32) (S11 : zS) =>
some ((), S11)) v1 zN 24 S
theorem w_X9_add_L3 {L : Nat} {xs : Nat → Int32} {fm : Bool} {h0 : Nat → va_E} {t : Nat × Nat × Nat} (hn1 : 64 ≤ t.1) (hn2 : t.1 ≤ 1000000) (d : Nat) {ex : Int32 → zS → Option (Unit × zS)} {i1 : Int32} {R : Unit × zS} (hex : ∀ (x2 : Int32) (S : zS) (h : Nat → va_E), zE (zDc t.1) h0 S (h, t) → ex x2 S = some R → zW (ia_P0 L xs fm) ia_nx (d + 0) 9 false cX9_add 4 (none) 55 [(0, .ref 1), (1, .int i1), (2, .int x2)] [] (h, t) (zQv (zDc t.1) h0 t R)) : ∀ (k : Nat) (x2 : Int32) (S : zS) (h : Nat → va_E), zE (zDc t.1) h0 S (h, t) → f_X9_add_L3 ex i1 k x2 S = some R → zW (ia_P0 L xs fm) ia_nx (d + 0) 9 false cX9_add 4 (none) 3 [(0, .ref 1), (1, .int i1), (2, .int x2)] [] (h, t) (zQv (zDc t.1) h0 t R) := by
  intro k
  induction k with
  | zero => intro x2 S h hE hf; cases hf
  | succ k ih =>
    intro x2 S h hE hf
    unfold f_X9_add_L3 at hf
    refine z_iload_n dX9_add_3 rfl ?_
    by_cases c1 : x2 < 0
    · have hf := zif_t hf c1
      refine z_if_lt_t (tgt := 55) dX9_add_4 (by decide) c1 ?_
      exact zW.sub (hex x2 S _ hE hf) [0, 1, 2] rfl rfl rfl rfl
    · have hf := zif_f hf c1
      refine z_if_lt_f (tgt := 55) dX9_add_4 (by decide) c1 ?_
      refine z_iload_n dX9_add_7 rfl ?_
      refine z_iload_n dX9_add_8 rfl ?_
      refine z_iushr dX9_add_9 ?_
      refine z_sipush (v := 255) dX9_add_10 (by decide) ?_
      refine z_iand dX9_add_13 ?_
      obtain ⟨y2, ey2, hf⟩ := zl_some hf
      refine z_topi ey2 ?_
      refine z_istore_n (lv' := [(3, .int y2), (0, .ref 1), (1, .int i1), (2, .int x2)]) dX9_add_14 (by decide) rfl ?_
      refine z_iload_n dX9_add_15 rfl ?_
      obtain ⟨J4, eJ4, hf⟩ := zl_some hf
      have hJ4 : ∀ (S5 : zS) (h : Nat → va_E), zE (zDc t.1) h0 S5 (h, t) → J4 S5 = some R → zW (ia_P0 L xs fm) ia_nx (d + 0) 9 false cX9_add 4 (none) 49 [(0, .ref 1), (1, .int i1), (2, .int x2), (3, .int y2)] [] (h, t) (zQv (zDc t.1) h0 t R) := by
        intro S5 h hE hf
        rw [eJ4] at hf
        obtain ⟨y6, ey6, hf⟩ := zl_some hf
        refine z_iincY (v := (-8)) (y := y6) (lv' := [(2, .int y6), (0, .ref 1), (1, .int i1), (3, .int y2)]) dX9_add_49 rfl (by decide) (by decide) ey6 rfl ?_
        refine z_goto (tgt := 3) dX9_add_52 (by decide) ?_
        exact zW.sub (ih y6 S5 _ hE hf) [1, 2, 0] rfl rfl rfl rfl
      by_cases c3 : y2 = 0
      · have hf := zif_t hf c3
        refine z_if_eq_t (tgt := 49) dX9_add_16 (by decide) c3 ?_
        exact zW.sub (hJ4 S _ hE hf) [1, 2, 3, 0] rfl rfl rfl rfl
      · have hf := zif_f hf c3
        refine z_if_eq_f (tgt := 49) dX9_add_16 (by decide) c3 ?_
        refine z_aload_n dX9_add_19 rfl ?_
        refine z_getI dX9_add_20 tF_9_19 hE dc_1 rfl rfl ?_
        refine z_sipush (v := 200) dX9_add_23 (by decide) ?_
        by_cases c7 : 200 ≤ (S.1 1 1)
        · have hf := zif_t hf c7
          refine z_icmp_ge_t (tgt := 49) dX9_add_26 (by decide) c7 ?_
          exact zW.sub (hJ4 S _ hE hf) [1, 2, 3, 0] rfl rfl rfl rfl
        · have hf := zif_f hf c7
          refine z_icmp_ge_f (tgt := 49) dX9_add_26 (by decide) c7 ?_
          refine z_aload_n dX9_add_29 rfl ?_
          refine z_getC dX9_add_30 tF_9_9 hE dc_1 rfl rfl ?_
          refine z_aload_n dX9_add_33 rfl ?_
          refine z_getI dX9_add_34 tF_9_19 hE dc_1 rfl rfl ?_
          refine z_iload_n dX9_add_37 rfl ?_
          obtain ⟨b8, hf⟩ := zchk hf
          obtain ⟨S9, eS9, hf⟩ := zl_some hf
          refine z_iastoreL (i := (S.1 1 1).toNatClampNeg) dX9_add_38 hE dc_2 b8 rfl (fun h hE => ?_)
          rw [← eS9] at hE
          refine z_aload_n dX9_add_39 rfl ?_
          refine z_dup dX9_add_40 rfl ?_
          refine z_getI dX9_add_41 tF_9_19 hE dc_1 rfl rfl ?_
          refine z_iconst (v := 1) dX9_add_44 (by decide) ?_
          refine z_iadd dX9_add_45 ?_
          obtain ⟨S10, eS10, hf⟩ := zl_some hf
          refine z_putI dX9_add_46 tF_9_19 hE dc_1 rfl rfl rfl rfl (fun h hE => ?_)
          rw [← eS10] at hE
          exact zW.sub (hJ4 S10 _ hE hf) [1, 2, 3, 0] rfl rfl rfl rfl
theorem w_X9_add {L : Nat} {xs : Nat → Int32} {fm : Bool} {h0 : Nat → va_E} {t : Nat × Nat × Nat} (hn1 : 64 ≤ t.1) (hn2 : t.1 ≤ 1000000) (d : Nat) {h : Nat → va_E} {S : zS} (hE : zE (zDc t.1) h0 S (h, t)) {v1 : Int32} {R : Unit × zS} (hf : f_X9_add v1 S = some R) : zC (ia_P0 L xs fm) (d + 1) 9002 [.ref 1, .int v1] (h, t) (zQv (zDc t.1) h0 t R) := by
  refine zC_of mt_9002 nn_9002 (Nat.le_of_ble_eq_true rfl) ?_
  refine zW_lv (lv' := [(0, .ref 1), (1, .int v1)]) rfl ?_
  unfold f_X9_add at hf
  refine z_bipush (v := 24) dX9_add_0 (by decide) ?_
  refine z_istore_n (lv' := [(2, .int 24), (0, .ref 1), (1, .int v1)]) dX9_add_2 (by decide) rfl ?_
  refine zW.sub (w_X9_add_L3 hn1 hn2 d (fun q12 S11 h hE hf => ?_) zN 24 S h hE hf) [1, 2, 0] rfl rfl rfl rfl
  try dsimp only at hf
  have e_ := Option.some.inj hf
  subst e_
  exact z_vreturn dX9_add_55 rfl ⟨h, rfl, rfl, hE⟩
def f_X11_feed (v1 : Int32) (v2 : Int32) (v3 : Int32) (v4 : Int32) (v5 : Int32) (S : zS) : Option (Int32 × zS) :=
zb (f_X9_bytesOf v1 S) fun r2 S1 =>
zb (f_X9_bytesOf v2 S1) fun r5 S4 =>
zb (f_X9_bytesOf v3 S4) fun r8 S7 =>
zb (f_X9_bytesOf v4 S7) fun r11 S10 =>
zb (f_X9_bytesOf v5 S10) fun r14 S13 =>
zl ((((r2 + r5) + r8) + r11) + r14) fun (y16 : Int32) =>
if ((S13.1 1 1) + y16) ≤ 200 then
zb (f_X9_add v1 S13) fun _ S18 =>
zb (f_X9_add v2 S18) fun _ S21 =>
zb (f_X9_add v3 S21) fun _ S24 =>
zb (f_X9_add v4 S24) fun _ S27 =>
zb (f_X9_add v5 S27) fun _ S30 =>
some (S30.1 1 1, S30)
else
some ((-1), S13)
theorem w_X11_feed {L : Nat} {xs : Nat → Int32} {fm : Bool} {h0 : Nat → va_E} {t : Nat × Nat × Nat} (hn1 : 64 ≤ t.1) (hn2 : t.1 ≤ 1000000) (d : Nat) {h : Nat → va_E} {S : zS} (hE : zE (zDc t.1) h0 S (h, t)) {v1 : Int32} {v2 : Int32} {v3 : Int32} {v4 : Int32} {v5 : Int32} {R : Int32 × zS} (hf : f_X11_feed v1 v2 v3 v4 v5 S = some R) : zC (ia_P0 L xs fm) (d + 2) 11001 [.ref 0, .int v1, .int v2, .int v3, .int v4, .int v5] (h, t) (zQi (zDc t.1) h0 t R) := by
  refine zC_of mt_11001 nn_11001 (Nat.le_of_ble_eq_true rfl) ?_
  refine zW_lv (lv' := [(0, .ref 0), (1, .int v1), (2, .int v2), (3, .int v3), (4, .int v4), (5, .int v5)]) rfl ?_
  unfold f_X11_feed at hf
  refine z_iload_n dX11_feed_0 rfl ?_
  obtain ⟨r2, S1, k3, hf⟩ := zb_some hf
  refine z_callSi dX11_feed_1 tM_11_106 (by decide) mt_9001 (Nat.le_of_ble_eq_true rfl) rfl rfl (ia_oks_le hn1 rfl) (Nat.le_of_ble_eq_true rfl) (w_X9_bytesOf hn1 hn2 (d + 0) hE k3) (fun h hE => ?_)
  refine z_iload_n dX11_feed_4 rfl ?_
  obtain ⟨r5, S4, k6, hf⟩ := zb_some hf
  refine z_callSi dX11_feed_5 tM_11_106 (by decide) mt_9001 (Nat.le_of_ble_eq_true rfl) rfl rfl (ia_oks_le hn1 rfl) (Nat.le_of_ble_eq_true rfl) (w_X9_bytesOf hn1 hn2 (d + 0) hE k6) (fun h hE => ?_)
  refine z_iadd dX11_feed_8 ?_
  refine z_iload_n dX11_feed_9 rfl ?_
  obtain ⟨r8, S7, k9, hf⟩ := zb_some hf
  refine z_callSi dX11_feed_10 tM_11_106 (by decide) mt_9001 (Nat.le_of_ble_eq_true rfl) rfl rfl (ia_oks_le hn1 rfl) (Nat.le_of_ble_eq_true rfl) (w_X9_bytesOf hn1 hn2 (d + 0) hE k9) (fun h hE => ?_)
  refine z_iadd dX11_feed_13 ?_
  refine z_iload dX11_feed_14 rfl ?_
  obtain ⟨r11, S10, k12, hf⟩ := zb_some hf
  refine z_callSi dX11_feed_16 tM_11_106 (by decide) mt_9001 (Nat.le_of_ble_eq_true rfl) rfl rfl (ia_oks_le hn1 rfl) (Nat.le_of_ble_eq_true rfl) (w_X9_bytesOf hn1 hn2 (d + 0) hE k12) (fun h hE => ?_)
  refine z_iadd dX11_feed_19 ?_
  refine z_iload dX11_feed_20 rfl ?_
  obtain ⟨r14, S13, k15, hf⟩ := zb_some hf
  refine z_callSi dX11_feed_22 tM_11_106 (by decide) mt_9001 (Nat.le_of_ble_eq_true rfl) rfl rfl (ia_oks_le hn1 rfl) (Nat.le_of_ble_eq_true rfl) (w_X9_bytesOf hn1 hn2 (d + 0) hE k15) (fun h hE => ?_)
  refine z_iadd dX11_feed_25 ?_
  obtain ⟨y16, ey16, hf⟩ := zl_some hf
  refine z_topi ey16 ?_
  refine z_istore (lv' := [(6, .int y16), (0, .ref 0), (1, .int v1), (2, .int v2), (3, .int v3), (4, .int v4), (5, .int v5)]) dX11_feed_26 (by decide) rfl ?_
  refine z_aload_n dX11_feed_28 rfl ?_
  refine z_getC dX11_feed_29 tF_11_10 hE dc_0 rfl rfl ?_
  refine z_getI dX11_feed_32 tF_11_110 hE dc_1 rfl rfl ?_
  refine z_iload dX11_feed_35 rfl ?_
  refine z_iadd dX11_feed_37 ?_
  refine z_sipush (v := 200) dX11_feed_38 (by decide) ?_
  by_cases c17 : ((S13.1 1 1) + y16) ≤ 200
  · have hf := zif_t hf c17
    refine z_icmp_le_t (tgt := 46) dX11_feed_41 (by decide) c17 ?_
    refine z_aload_n dX11_feed_46 rfl ?_
    refine z_getC dX11_feed_47 tF_11_10 hE dc_0 rfl rfl ?_
    refine z_iload_n dX11_feed_50 rfl ?_
    obtain ⟨r19, S18, k20, hf⟩ := zb_some hf
    refine z_callVv dX11_feed_51 tM_11_113 mt_9002 (Nat.le_of_ble_eq_true rfl) rfl rfl (z_recv hE dc_1 rfl) rfl (ia_oks_le hn1 rfl) (Nat.le_of_ble_eq_true rfl) (w_X9_add hn1 hn2 (d + 0) hE k20) (fun h hE => ?_)
    refine z_aload_n dX11_feed_54 rfl ?_
    refine z_getC dX11_feed_55 tF_11_10 hE dc_0 rfl rfl ?_
    refine z_iload_n dX11_feed_58 rfl ?_
    obtain ⟨r22, S21, k23, hf⟩ := zb_some hf
    refine z_callVv dX11_feed_59 tM_11_113 mt_9002 (Nat.le_of_ble_eq_true rfl) rfl rfl (z_recv hE dc_1 rfl) rfl (ia_oks_le hn1 rfl) (Nat.le_of_ble_eq_true rfl) (w_X9_add hn1 hn2 (d + 0) hE k23) (fun h hE => ?_)
    refine z_aload_n dX11_feed_62 rfl ?_
    refine z_getC dX11_feed_63 tF_11_10 hE dc_0 rfl rfl ?_
    refine z_iload_n dX11_feed_66 rfl ?_
    obtain ⟨r25, S24, k26, hf⟩ := zb_some hf
    refine z_callVv dX11_feed_67 tM_11_113 mt_9002 (Nat.le_of_ble_eq_true rfl) rfl rfl (z_recv hE dc_1 rfl) rfl (ia_oks_le hn1 rfl) (Nat.le_of_ble_eq_true rfl) (w_X9_add hn1 hn2 (d + 0) hE k26) (fun h hE => ?_)
    refine z_aload_n dX11_feed_70 rfl ?_
    refine z_getC dX11_feed_71 tF_11_10 hE dc_0 rfl rfl ?_
    refine z_iload dX11_feed_74 rfl ?_
    obtain ⟨r28, S27, k29, hf⟩ := zb_some hf
    refine z_callVv dX11_feed_76 tM_11_113 mt_9002 (Nat.le_of_ble_eq_true rfl) rfl rfl (z_recv hE dc_1 rfl) rfl (ia_oks_le hn1 rfl) (Nat.le_of_ble_eq_true rfl) (w_X9_add hn1 hn2 (d + 0) hE k29) (fun h hE => ?_)
    refine z_aload_n dX11_feed_79 rfl ?_
    refine z_getC dX11_feed_80 tF_11_10 hE dc_0 rfl rfl ?_
    refine z_iload dX11_feed_83 rfl ?_
    obtain ⟨r31, S30, k32, hf⟩ := zb_some hf
    refine z_callVv dX11_feed_85 tM_11_113 mt_9002 (Nat.le_of_ble_eq_true rfl) rfl rfl (z_recv hE dc_1 rfl) rfl (ia_oks_le hn1 rfl) (Nat.le_of_ble_eq_true rfl) (w_X9_add hn1 hn2 (d + 0) hE k32) (fun h hE => ?_)
    refine z_aload_n dX11_feed_88 rfl ?_
    refine z_getC dX11_feed_89 tF_11_10 hE dc_0 rfl rfl ?_
    refine z_getI dX11_feed_92 tF_11_110 hE dc_1 rfl rfl ?_
    have e_ := Option.some.inj hf
    subst e_
    exact z_ireturn dX11_feed_95 rfl ⟨h, rfl, rfl, hE⟩
  · have hf := zif_f hf c17
    refine z_icmp_le_f (tgt := 46) dX11_feed_41 (by decide) c17 ?_
    refine z_iconst (v := (-1)) dX11_feed_44 (by decide) ?_
    have e_ := Option.some.inj hf
    subst e_
    exact z_ireturn dX11_feed_45 rfl ⟨h, rfl, rfl, hE⟩
def f_X11_end (v1 : Int32) (S : zS) : Option (Int32 × zS) :=
if v1 < 0 then
some (0, S)
else
if v1 ≤ (S.1 1 1) then
zl (sV S 1 1 v1) fun S3 =>
some (1, S3)
else
some (0, S)
theorem w_X11_end {L : Nat} {xs : Nat → Int32} {fm : Bool} {h0 : Nat → va_E} {t : Nat × Nat × Nat} (hn1 : 64 ≤ t.1) (hn2 : t.1 ≤ 1000000) (d : Nat) {h : Nat → va_E} {S : zS} (hE : zE (zDc t.1) h0 S (h, t)) {v1 : Int32} {R : Int32 × zS} (hf : f_X11_end v1 S = some R) : zC (ia_P0 L xs fm) (d + 1) 11002 [.ref 0, .int v1] (h, t) (zQi (zDc t.1) h0 t R) := by
  refine zC_of mt_11002 nn_11002 (Nat.le_of_ble_eq_true rfl) ?_
  refine zW_lv (lv' := [(0, .ref 0), (1, .int v1)]) rfl ?_
  unfold f_X11_end at hf
  refine z_iload_n dX11_end_0 rfl ?_
  by_cases c1 : v1 < 0
  · have hf := zif_t hf c1
    refine z_if_lt_t (tgt := 15) dX11_end_1 (by decide) c1 ?_
    refine z_iconst (v := 0) dX11_end_15 (by decide) ?_
    have e_ := Option.some.inj hf
    subst e_
    exact z_zreturn dX11_end_16 rfl (by decide) ⟨h, rfl, rfl, hE⟩
  · have hf := zif_f hf c1
    refine z_if_lt_f (tgt := 15) dX11_end_1 (by decide) c1 ?_
    refine z_iload_n dX11_end_4 rfl ?_
    refine z_aload_n dX11_end_5 rfl ?_
    refine z_getC dX11_end_6 tF_11_10 hE dc_0 rfl rfl ?_
    refine z_getI dX11_end_9 tF_11_110 hE dc_1 rfl rfl ?_
    by_cases c2 : v1 ≤ (S.1 1 1)
    · have hf := zif_t hf c2
      refine z_icmp_le_t (tgt := 17) dX11_end_12 (by decide) c2 ?_
      refine z_aload_n dX11_end_17 rfl ?_
      refine z_getC dX11_end_18 tF_11_10 hE dc_0 rfl rfl ?_
      refine z_iload_n dX11_end_21 rfl ?_
      obtain ⟨S3, eS3, hf⟩ := zl_some hf
      refine z_putI dX11_end_22 tF_11_110 hE dc_1 rfl rfl rfl rfl (fun h hE => ?_)
      rw [← eS3] at hE
      refine z_iconst (v := 1) dX11_end_25 (by decide) ?_
      have e_ := Option.some.inj hf
      subst e_
      exact z_zreturn dX11_end_26 rfl (by decide) ⟨h, rfl, rfl, hE⟩
    · have hf := zif_f hf c2
      refine z_icmp_le_f (tgt := 17) dX11_end_12 (by decide) c2 ?_
      refine z_iconst (v := 0) dX11_end_15 (by decide) ?_
      have e_ := Option.some.inj hf
      subst e_
      exact z_zreturn dX11_end_16 rfl (by decide) ⟨h, rfl, rfl, hE⟩
def f_X9_rewind  (S : zS) : Option (Unit × zS) :=
zl (sV S 1 2 0) fun S1 =>
zl (sV S1 1 3 (-1)) fun S2 =>
some ((), S2)
theorem w_X9_rewind {L : Nat} {xs : Nat → Int32} {fm : Bool} {h0 : Nat → va_E} {t : Nat × Nat × Nat} (hn1 : 64 ≤ t.1) (hn2 : t.1 ≤ 1000000) (d : Nat) {h : Nat → va_E} {S : zS} (hE : zE (zDc t.1) h0 S (h, t)) {R : Unit × zS} (hf : f_X9_rewind  S = some R) : zC (ia_P0 L xs fm) (d + 1) 9003 [.ref 1] (h, t) (zQv (zDc t.1) h0 t R) := by
  refine zC_of mt_9003 nn_9003 (Nat.le_of_ble_eq_true rfl) ?_
  refine zW_lv (lv' := [(0, .ref 1)]) rfl ?_
  unfold f_X9_rewind at hf
  refine z_aload_n dX9_rewind_0 rfl ?_
  refine z_iconst (v := 0) dX9_rewind_1 (by decide) ?_
  obtain ⟨S1, eS1, hf⟩ := zl_some hf
  refine z_putI dX9_rewind_2 tF_9_22 hE dc_1 rfl rfl rfl rfl (fun h hE => ?_)
  rw [← eS1] at hE
  refine z_aload_n dX9_rewind_5 rfl ?_
  refine z_iconst (v := (-1)) dX9_rewind_6 (by decide) ?_
  obtain ⟨S2, eS2, hf⟩ := zl_some hf
  refine z_putI dX9_rewind_7 tF_9_15 hE dc_1 rfl rfl rfl rfl (fun h hE => ?_)
  rw [← eS2] at hE
  have e_ := Option.some.inj hf
  subst e_
  exact z_vreturn dX9_rewind_10 rfl ⟨h, rfl, rfl, hE⟩
def f_X10_clear  (S : zS) : Option (Unit × zS) :=
zb (f_J7_fill_53178 5 3 0 S) fun _ S1 =>
some ((), S1)
theorem w_X10_clear {L : Nat} {xs : Nat → Int32} {fm : Bool} {h0 : Nat → va_E} {t : Nat × Nat × Nat} (hn1 : 64 ≤ t.1) (hn2 : t.1 ≤ 1000000) (d : Nat) {h : Nat → va_E} {S : zS} (hE : zE (zDc t.1) h0 S (h, t)) {R : Unit × zS} (hf : f_X10_clear  S = some R) : zC (ia_P0 L xs fm) (d + 2) 10001 [.ref 4] (h, t) (zQv (zDc t.1) h0 t R) := by
  refine zC_of mt_10001 nn_10001 (Nat.le_of_ble_eq_true rfl) ?_
  refine zW_lv (lv' := [(0, .ref 4)]) rfl ?_
  unfold f_X10_clear at hf
  refine z_aload_n dX10_clear_0 rfl ?_
  refine z_getC dX10_clear_1 tF_10_9 hE dc_4 rfl rfl ?_
  refine z_iconst (v := 0) dX10_clear_4 (by decide) ?_
  obtain ⟨r2, S1, k3, hf⟩ := zb_some hf
  refine z_callSv dX10_clear_5 tM_10_18 (by decide) mt_904000 (Nat.le_of_ble_eq_true rfl) rfl rfl (ia_oks_le hn1 rfl) (Nat.le_of_ble_eq_true rfl) (w_J7_fill_53178 hn1 hn2 (d + 0) dc_5 hE k3) (fun h hE => ?_)
  have e_ := Option.some.inj hf
  subst e_
  exact z_vreturn dX10_clear_8 rfl ⟨h, rfl, rfl, hE⟩
def f_X9_sign_L2 (ex : Int32 → zS → Option (Int32 × zS))  : Nat → Int32 → zS → Option (Int32 × zS)
  | 0, _, _ => none
  | k + 1, x1, S =>
    if 200 ≤ x1 then
    ex x1 S
    else
    if (S.1 1 1) ≤ (S.1 1 2) then
    ex x1 S
    else
    if ia_in (S.1 1 2) 200 = true then
    if ¬ (S.1 2 (S.1 1 2).toNatClampNeg) = 32 then
    ex x1 S
    else
    zl (sV S 1 2 ((S.1 1 2) + 1)) fun S5 =>
    zl (x1 + 1) fun (y6 : Int32) =>
    f_X9_sign_L2 ex k y6 S5
    else none
def f_X9_sign  (S : zS) : Option (Int32 × zS) :=
f_X9_sign_L2 (fun (q8 : Int32) (S7 : zS) =>
if ¬ (S7.1 1 3) = (-1) then
some (0, S7)
else
if (S7.1 1 1) ≤ (S7.1 1 2) then
some (0, S7)
else
if ia_in (S7.1 1 2) 200 = true then
some (S7.1 2 (S7.1 1 2).toNatClampNeg, S7)
else none)  zN 0 S
theorem w_X9_sign_L2 {L : Nat} {xs : Nat → Int32} {fm : Bool} {h0 : Nat → va_E} {t : Nat × Nat × Nat} (hn1 : 64 ≤ t.1) (hn2 : t.1 ≤ 1000000) (d : Nat) {ex : Int32 → zS → Option (Int32 × zS)} {R : Int32 × zS} (hex : ∀ (x1 : Int32) (S : zS) (h : Nat → va_E), zE (zDc t.1) h0 S (h, t) → ex x1 S = some R → zW (ia_P0 L xs fm) ia_nx (d + 0) 9 false cX9_sign 2 (some .int) 50 [(0, .ref 1), (1, .int x1)] [] (h, t) (zQi (zDc t.1) h0 t R)) : ∀ (k : Nat) (x1 : Int32) (S : zS) (h : Nat → va_E), zE (zDc t.1) h0 S (h, t) → f_X9_sign_L2 ex  k x1 S = some R → zW (ia_P0 L xs fm) ia_nx (d + 0) 9 false cX9_sign 2 (some .int) 2 [(0, .ref 1), (1, .int x1)] [] (h, t) (zQi (zDc t.1) h0 t R) := by
  intro k
  induction k with
  | zero => intro x1 S h hE hf; cases hf
  | succ k ih =>
    intro x1 S h hE hf
    unfold f_X9_sign_L2 at hf
    refine z_iload_n dX9_sign_2 rfl ?_
    refine z_sipush (v := 200) dX9_sign_3 (by decide) ?_
    by_cases c1 : 200 ≤ x1
    · have hf := zif_t hf c1
      refine z_icmp_ge_t (tgt := 50) dX9_sign_6 (by decide) c1 ?_
      exact zW.sub (hex x1 S _ hE hf) [0, 1] rfl rfl rfl rfl
    · have hf := zif_f hf c1
      refine z_icmp_ge_f (tgt := 50) dX9_sign_6 (by decide) c1 ?_
      refine z_aload_n dX9_sign_9 rfl ?_
      refine z_getI dX9_sign_10 tF_9_22 hE dc_1 rfl rfl ?_
      refine z_aload_n dX9_sign_13 rfl ?_
      refine z_getI dX9_sign_14 tF_9_19 hE dc_1 rfl rfl ?_
      by_cases c2 : (S.1 1 1) ≤ (S.1 1 2)
      · have hf := zif_t hf c2
        refine z_icmp_ge_t (tgt := 50) dX9_sign_17 (by decide) c2 ?_
        exact zW.sub (hex x1 S _ hE hf) [0, 1] rfl rfl rfl rfl
      · have hf := zif_f hf c2
        refine z_icmp_ge_f (tgt := 50) dX9_sign_17 (by decide) c2 ?_
        refine z_aload_n dX9_sign_20 rfl ?_
        refine z_getC dX9_sign_21 tF_9_9 hE dc_1 rfl rfl ?_
        refine z_aload_n dX9_sign_24 rfl ?_
        refine z_getI dX9_sign_25 tF_9_22 hE dc_1 rfl rfl ?_
        obtain ⟨b3, hf⟩ := zchk hf
        refine z_ialoadL dX9_sign_28 hE dc_2 b3 rfl ?_
        refine z_bipush (v := 32) dX9_sign_29 (by decide) ?_
        by_cases c4 : ¬ (S.1 2 (S.1 1 2).toNatClampNeg) = 32
        · have hf := zif_t hf c4
          refine z_icmp_ne_t (tgt := 50) dX9_sign_31 (by decide) c4 ?_
          exact zW.sub (hex x1 S _ hE hf) [0, 1] rfl rfl rfl rfl
        · have hf := zif_f hf c4
          refine z_icmp_ne_f (tgt := 50) dX9_sign_31 (by decide) c4 ?_
          refine z_aload_n dX9_sign_34 rfl ?_
          refine z_dup dX9_sign_35 rfl ?_
          refine z_getI dX9_sign_36 tF_9_22 hE dc_1 rfl rfl ?_
          refine z_iconst (v := 1) dX9_sign_39 (by decide) ?_
          refine z_iadd dX9_sign_40 ?_
          obtain ⟨S5, eS5, hf⟩ := zl_some hf
          refine z_putI dX9_sign_41 tF_9_22 hE dc_1 rfl rfl rfl rfl (fun h hE => ?_)
          rw [← eS5] at hE
          obtain ⟨y6, ey6, hf⟩ := zl_some hf
          refine z_iincY (v := 1) (y := y6) (lv' := [(1, .int y6), (0, .ref 1)]) dX9_sign_44 rfl (by decide) (by decide) ey6 rfl ?_
          refine z_goto (tgt := 2) dX9_sign_47 (by decide) ?_
          exact zW.sub (ih y6 S5 _ hE hf) [1, 0] rfl rfl rfl rfl
theorem w_X9_sign {L : Nat} {xs : Nat → Int32} {fm : Bool} {h0 : Nat → va_E} {t : Nat × Nat × Nat} (hn1 : 64 ≤ t.1) (hn2 : t.1 ≤ 1000000) (d : Nat) {h : Nat → va_E} {S : zS} (hE : zE (zDc t.1) h0 S (h, t)) {R : Int32 × zS} (hf : f_X9_sign  S = some R) : zC (ia_P0 L xs fm) (d + 1) 9004 [.ref 1] (h, t) (zQi (zDc t.1) h0 t R) := by
  refine zC_of mt_9004 nn_9004 (Nat.le_of_ble_eq_true rfl) ?_
  refine zW_lv (lv' := [(0, .ref 1)]) rfl ?_
  unfold f_X9_sign at hf
  refine z_iconst (v := 0) dX9_sign_0 (by decide) ?_
  refine z_istore_n (lv' := [(1, .int 0), (0, .ref 1)]) dX9_sign_1 (by decide) rfl ?_
  refine zW.sub (w_X9_sign_L2 hn1 hn2 d (fun q8 S7 h hE hf => ?_) zN 0 S h hE hf) [1, 0] rfl rfl rfl rfl
  try dsimp only at hf
  refine z_aload_n dX9_sign_50 rfl ?_
  refine z_getI dX9_sign_51 tF_9_15 hE dc_1 rfl rfl ?_
  refine z_iconst (v := (-1)) dX9_sign_54 (by decide) ?_
  by_cases c9 : ¬ (S7.1 1 3) = (-1)
  · have hf := zif_t hf c9
    refine z_icmp_ne_t (tgt := 81) dX9_sign_55 (by decide) c9 ?_
    refine z_iconst (v := 0) dX9_sign_81 (by decide) ?_
    have e_ := Option.some.inj hf
    subst e_
    exact z_ireturn dX9_sign_82 rfl ⟨h, rfl, rfl, hE⟩
  · have hf := zif_f hf c9
    refine z_icmp_ne_f (tgt := 81) dX9_sign_55 (by decide) c9 ?_
    refine z_aload_n dX9_sign_58 rfl ?_
    refine z_getI dX9_sign_59 tF_9_22 hE dc_1 rfl rfl ?_
    refine z_aload_n dX9_sign_62 rfl ?_
    refine z_getI dX9_sign_63 tF_9_19 hE dc_1 rfl rfl ?_
    by_cases c10 : (S7.1 1 1) ≤ (S7.1 1 2)
    · have hf := zif_t hf c10
      refine z_icmp_ge_t (tgt := 81) dX9_sign_66 (by decide) c10 ?_
      refine z_iconst (v := 0) dX9_sign_81 (by decide) ?_
      have e_ := Option.some.inj hf
      subst e_
      exact z_ireturn dX9_sign_82 rfl ⟨h, rfl, rfl, hE⟩
    · have hf := zif_f hf c10
      refine z_icmp_ge_f (tgt := 81) dX9_sign_66 (by decide) c10 ?_
      refine z_aload_n dX9_sign_69 rfl ?_
      refine z_getC dX9_sign_70 tF_9_9 hE dc_1 rfl rfl ?_
      refine z_aload_n dX9_sign_73 rfl ?_
      refine z_getI dX9_sign_74 tF_9_22 hE dc_1 rfl rfl ?_
      obtain ⟨b11, hf⟩ := zchk hf
      refine z_ialoadL dX9_sign_77 hE dc_2 b11 rfl ?_
      refine z_goto (tgt := 82) dX9_sign_78 (by decide) ?_
      have e_ := Option.some.inj hf
      subst e_
      exact z_ireturn dX9_sign_82 rfl ⟨h, rfl, rfl, hE⟩
def f_X10_cellOf (v0 : Int32) (v1 : Int32) (v2 : Int32) (S : zS) : Option (Int32 × zS) :=
if ia_in v0 3 = true then
if ia_in v0 3 = true then
some (((zc_1000003 v0.toNatClampNeg) + (v1 * (zc_1000002 v0.toNatClampNeg))) + v2, S)
else none
else none
theorem w_X10_cellOf {L : Nat} {xs : Nat → Int32} {fm : Bool} {h0 : Nat → va_E} {t : Nat × Nat × Nat} (hn1 : 64 ≤ t.1) (hn2 : t.1 ≤ 1000000) (d : Nat) {h : Nat → va_E} {S : zS} (hE : zE (zDc t.1) h0 S (h, t)) {v0 : Int32} {v1 : Int32} {v2 : Int32} {R : Int32 × zS} (hf : f_X10_cellOf v0 v1 v2 S = some R) : zC (ia_P0 L xs fm) (d + 1) 10002 [.int v0, .int v1, .int v2] (h, t) (zQi (zDc t.1) h0 t R) := by
  refine zC_of mt_10002 nn_10002 (Nat.le_of_ble_eq_true rfl) ?_
  refine zW_lv (lv' := [(0, .int v0), (1, .int v1), (2, .int v2)]) rfl ?_
  unfold f_X10_cellOf at hf
  refine z_getstatic dX10_cellOf_0 tS_10_30 ?_
  refine z_iload_n dX10_cellOf_3 rfl ?_
  obtain ⟨b1, hf⟩ := zchk hf
  refine z_ialoadC dX10_cellOf_4 (by decide) hn2 hc_1000003 b1 ?_
  refine z_iload_n dX10_cellOf_5 rfl ?_
  refine z_getstatic dX10_cellOf_6 tS_10_33 ?_
  refine z_iload_n dX10_cellOf_9 rfl ?_
  obtain ⟨b2, hf⟩ := zchk hf
  refine z_ialoadC dX10_cellOf_10 (by decide) hn2 hc_1000002 b2 ?_
  refine z_imul dX10_cellOf_11 ?_
  refine z_iadd dX10_cellOf_12 ?_
  refine z_iload_n dX10_cellOf_13 rfl ?_
  refine z_iadd dX10_cellOf_14 ?_
  have e_ := Option.some.inj hf
  subst e_
  exact z_ireturn dX10_cellOf_15 rfl ⟨h, rfl, rfl, hE⟩
def f_X4_lettersOf (v0 : Int32) (S : zS) : Option (Value × zS) :=
if ¬ v0 = 0 then
if ¬ v0 = 1 then
some (.ref 1000103, S)
else
some (.ref 1000102, S)
else
some (.ref 1000101, S)
theorem w_X4_lettersOf {L : Nat} {xs : Nat → Int32} {fm : Bool} {h0 : Nat → va_E} {t : Nat × Nat × Nat} (hn1 : 64 ≤ t.1) (hn2 : t.1 ≤ 1000000) (d : Nat) {h : Nat → va_E} {S : zS} (hE : zE (zDc t.1) h0 S (h, t)) {v0 : Int32} {R : Value × zS} (hf : f_X4_lettersOf v0 S = some R) : zC (ia_P0 L xs fm) (d + 1) 4004 [.int v0] (h, t) (zQr (zDc t.1) h0 t R) := by
  refine zC_of mt_4004 nn_4004 (Nat.le_of_ble_eq_true rfl) ?_
  refine zW_lv (lv' := [(0, .int v0)]) rfl ?_
  unfold f_X4_lettersOf at hf
  refine z_iload_n dX4_lettersOf_0 rfl ?_
  by_cases c1 : ¬ v0 = 0
  · have hf := zif_t hf c1
    refine z_if_ne_t (tgt := 7) dX4_lettersOf_1 (by decide) c1 ?_
    refine z_iload_n dX4_lettersOf_7 rfl ?_
    refine z_iconst (v := 1) dX4_lettersOf_8 (by decide) ?_
    by_cases c2 : ¬ v0 = 1
    · have hf := zif_t hf c2
      refine z_icmp_ne_t (tgt := 17) dX4_lettersOf_9 (by decide) c2 ?_
      refine z_ldcS dX4_lettersOf_17 tK_4_106 ?_
      have e_ := Option.some.inj hf
      subst e_
      exact z_areturnO dX4_lettersOf_19 rfl ⟨h, rfl, rfl, hE⟩
    · have hf := zif_f hf c2
      refine z_icmp_ne_f (tgt := 17) dX4_lettersOf_9 (by decide) c2 ?_
      refine z_ldcS dX4_lettersOf_12 tK_4_104 ?_
      refine z_goto (tgt := 19) dX4_lettersOf_14 (by decide) ?_
      have e_ := Option.some.inj hf
      subst e_
      exact z_areturnO dX4_lettersOf_19 rfl ⟨h, rfl, rfl, hE⟩
  · have hf := zif_f hf c1
    refine z_if_ne_f (tgt := 7) dX4_lettersOf_1 (by decide) c1 ?_
    refine z_ldcS dX4_lettersOf_4 tK_4_102 ?_
    have e_ := Option.some.inj hf
    subst e_
    exact z_areturnO dX4_lettersOf_6 rfl ⟨h, rfl, rfl, hE⟩
def f_X9_isDigit (v0 : Int32) (S : zS) : Option (Int32 × zS) :=
if v0 < 48 then
some (0, S)
else
if 57 < v0 then
some (0, S)
else
some (1, S)
theorem w_X9_isDigit {L : Nat} {xs : Nat → Int32} {fm : Bool} {h0 : Nat → va_E} {t : Nat × Nat × Nat} (hn1 : 64 ≤ t.1) (hn2 : t.1 ≤ 1000000) (d : Nat) {h : Nat → va_E} {S : zS} (hE : zE (zDc t.1) h0 S (h, t)) {v0 : Int32} {R : Int32 × zS} (hf : f_X9_isDigit v0 S = some R) : zC (ia_P0 L xs fm) (d + 1) 9007 [.int v0] (h, t) (zQi (zDc t.1) h0 t R) := by
  refine zC_of mt_9007 nn_9007 (Nat.le_of_ble_eq_true rfl) ?_
  refine zW_lv (lv' := [(0, .int v0)]) rfl ?_
  unfold f_X9_isDigit at hf
  refine z_iload_n dX9_isDigit_0 rfl ?_
  refine z_bipush (v := 48) dX9_isDigit_1 (by decide) ?_
  by_cases c1 : v0 < 48
  · have hf := zif_t hf c1
    refine z_icmp_lt_t (tgt := 16) dX9_isDigit_3 (by decide) c1 ?_
    refine z_iconst (v := 0) dX9_isDigit_16 (by decide) ?_
    have e_ := Option.some.inj hf
    subst e_
    exact z_zreturn dX9_isDigit_17 rfl (by decide) ⟨h, rfl, rfl, hE⟩
  · have hf := zif_f hf c1
    refine z_icmp_lt_f (tgt := 16) dX9_isDigit_3 (by decide) c1 ?_
    refine z_iload_n dX9_isDigit_6 rfl ?_
    refine z_bipush (v := 57) dX9_isDigit_7 (by decide) ?_
    by_cases c2 : 57 < v0
    · have hf := zif_t hf c2
      refine z_icmp_gt_t (tgt := 16) dX9_isDigit_9 (by decide) c2 ?_
      refine z_iconst (v := 0) dX9_isDigit_16 (by decide) ?_
      have e_ := Option.some.inj hf
      subst e_
      exact z_zreturn dX9_isDigit_17 rfl (by decide) ⟨h, rfl, rfl, hE⟩
    · have hf := zif_f hf c2
      refine z_icmp_gt_f (tgt := 16) dX9_isDigit_9 (by decide) c2 ?_
      refine z_iconst (v := 1) dX9_isDigit_12 (by decide) ?_
      refine z_goto (tgt := 17) dX9_isDigit_13 (by decide) ?_
      have e_ := Option.some.inj hf
      subst e_
      exact z_zreturn dX9_isDigit_17 rfl (by decide) ⟨h, rfl, rfl, hE⟩
def f_X9_fail  (S : zS) : Option (Unit × zS) :=
if ¬ (S.1 1 3) = (-1) then
some ((), S)
else
zl (sV S 1 3 (S.1 1 2)) fun S2 =>
some ((), S2)
theorem w_X9_fail {L : Nat} {xs : Nat → Int32} {fm : Bool} {h0 : Nat → va_E} {t : Nat × Nat × Nat} (hn1 : 64 ≤ t.1) (hn2 : t.1 ≤ 1000000) (d : Nat) {h : Nat → va_E} {S : zS} (hE : zE (zDc t.1) h0 S (h, t)) {R : Unit × zS} (hf : f_X9_fail  S = some R) : zC (ia_P0 L xs fm) (d + 1) 9005 [.ref 1] (h, t) (zQv (zDc t.1) h0 t R) := by
  refine zC_of mt_9005 nn_9005 (Nat.le_of_ble_eq_true rfl) ?_
  refine zW_lv (lv' := [(0, .ref 1)]) rfl ?_
  unfold f_X9_fail at hf
  refine z_aload_n dX9_fail_0 rfl ?_
  refine z_getI dX9_fail_1 tF_9_15 hE dc_1 rfl rfl ?_
  refine z_iconst (v := (-1)) dX9_fail_4 (by decide) ?_
  by_cases c1 : ¬ (S.1 1 3) = (-1)
  · have hf := zif_t hf c1
    refine z_icmp_ne_t (tgt := 16) dX9_fail_5 (by decide) c1 ?_
    have e_ := Option.some.inj hf
    subst e_
    exact z_vreturn dX9_fail_16 rfl ⟨h, rfl, rfl, hE⟩
  · have hf := zif_f hf c1
    refine z_icmp_ne_f (tgt := 16) dX9_fail_5 (by decide) c1 ?_
    refine z_aload_n dX9_fail_8 rfl ?_
    refine z_aload_n dX9_fail_9 rfl ?_
    refine z_getI dX9_fail_10 tF_9_22 hE dc_1 rfl rfl ?_
    obtain ⟨S2, eS2, hf⟩ := zl_some hf
    refine z_putI dX9_fail_13 tF_9_15 hE dc_1 rfl rfl rfl rfl (fun h hE => ?_)
    rw [← eS2] at hE
    have e_ := Option.some.inj hf
    subst e_
    exact z_vreturn dX9_fail_16 rfl ⟨h, rfl, rfl, hE⟩
def f_X9_number_L22 (ex : Int32 → Int32 → zS → Option (Int32 × zS)) (i1 : Int32) (i2 : Int32) (i3 : Int32) : Nat → Int32 → Int32 → zS → Option (Int32 × zS)
  | 0, _, _, _ => none
  | k + 1, x4, x5, S =>
    if i1 ≤ x5 then
    ex x4 x5 S
    else
    if (S.1 1 1) ≤ (S.1 1 2) then
    ex x4 x5 S
    else
    if ia_in (S.1 1 2) 200 = true then
    zb (f_X9_isDigit (S.1 2 (S.1 1 2).toNatClampNeg) S) fun r12 S11 =>
    if r12 = 0 then
    ex x4 x5 S11
    else
    if ia_in (S11.1 1 2) 200 = true then
    zl (((x4 * 10) + (S11.1 2 (S11.1 1 2).toNatClampNeg)) - 48) fun (y16 : Int32) =>
    zl (sV S11 1 2 ((S11.1 1 2) + 1)) fun S17 =>
    zl (x5 + 1) fun (y18 : Int32) =>
    f_X9_number_L22 ex i1 i2 i3 k y16 y18 S17
    else none
    else none
def f_X9_number (v1 : Int32) (v2 : Int32) (v3 : Int32) (S : zS) : Option (Int32 × zS) :=
zb (f_X9_sign S) fun r2 S1 =>
zb (f_X9_isDigit r2 S1) fun r5 S4 =>
if ¬ r5 = 0 then
f_X9_number_L22 (fun (q20 : Int32) (q21 : Int32) (S19 : zS) =>
zl (fun (S24 : zS) =>
zl (fun (u27 : Unit) =>
zl (sV S24 1 3 ((S24.1 1 2) - 1)) fun S28 =>
some (q20, S28)) fun J26 =>
if q20 < v2 then
J26 ()
else
if q20 ≤ v3 then
some (q20, S24)
else
J26 ()) fun J23 =>
if (S19.1 1 1) ≤ (S19.1 1 2) then
J23 S19
else
if ia_in (S19.1 1 2) 200 = true then
zb (f_X9_isDigit (S19.1 2 (S19.1 1 2).toNatClampNeg) S19) fun r32 S31 =>
if r32 = 0 then
J23 S31
else
zb (f_X9_fail S31) fun _ S35 =>
some (q20, S35)
else none) v1 v2 v3 zN 0 0 S4
else
zb (f_X9_fail S4) fun _ S38 =>
some (v2, S38)
theorem w_X9_number_L22 {L : Nat} {xs : Nat → Int32} {fm : Bool} {h0 : Nat → va_E} {t : Nat × Nat × Nat} (hn1 : 64 ≤ t.1) (hn2 : t.1 ≤ 1000000) (d : Nat) {ex : Int32 → Int32 → zS → Option (Int32 × zS)} {i1 : Int32} {i2 : Int32} {i3 : Int32} {R : Int32 × zS} (hex : ∀ (x4 : Int32) (x5 : Int32) (S : zS) (h : Nat → va_E), zE (zDc t.1) h0 S (h, t) → ex x4 x5 S = some R → zW (ia_P0 L xs fm) ia_nx (d + 1) 9 false cX9_number 6 (some .int) 90 [(0, .ref 1), (1, .int i1), (2, .int i2), (3, .int i3), (4, .int x4), (5, .int x5)] [] (h, t) (zQi (zDc t.1) h0 t R)) : ∀ (k : Nat) (x4 : Int32) (x5 : Int32) (S : zS) (h : Nat → va_E), zE (zDc t.1) h0 S (h, t) → f_X9_number_L22 ex i1 i2 i3 k x4 x5 S = some R → zW (ia_P0 L xs fm) ia_nx (d + 1) 9 false cX9_number 6 (some .int) 22 [(0, .ref 1), (1, .int i1), (2, .int i2), (3, .int i3), (4, .int x4), (5, .int x5)] [] (h, t) (zQi (zDc t.1) h0 t R) := by
  intro k
  induction k with
  | zero => intro x4 x5 S h hE hf; cases hf
  | succ k ih =>
    intro x4 x5 S h hE hf
    unfold f_X9_number_L22 at hf
    refine z_iload dX9_number_22 rfl ?_
    refine z_iload_n dX9_number_24 rfl ?_
    by_cases c8 : i1 ≤ x5
    · have hf := zif_t hf c8
      refine z_icmp_ge_t (tgt := 90) dX9_number_25 (by decide) c8 ?_
      exact zW.sub (hex x4 x5 S _ hE hf) [0, 1, 2, 3, 4, 5] rfl rfl rfl rfl
    · have hf := zif_f hf c8
      refine z_icmp_ge_f (tgt := 90) dX9_number_25 (by decide) c8 ?_
      refine z_aload_n dX9_number_28 rfl ?_
      refine z_getI dX9_number_29 tF_9_22 hE dc_1 rfl rfl ?_
      refine z_aload_n dX9_number_32 rfl ?_
      refine z_getI dX9_number_33 tF_9_19 hE dc_1 rfl rfl ?_
      by_cases c9 : (S.1 1 1) ≤ (S.1 1 2)
      · have hf := zif_t hf c9
        refine z_icmp_ge_t (tgt := 90) dX9_number_36 (by decide) c9 ?_
        exact zW.sub (hex x4 x5 S _ hE hf) [0, 1, 2, 3, 4, 5] rfl rfl rfl rfl
      · have hf := zif_f hf c9
        refine z_icmp_ge_f (tgt := 90) dX9_number_36 (by decide) c9 ?_
        refine z_aload_n dX9_number_39 rfl ?_
        refine z_getC dX9_number_40 tF_9_9 hE dc_1 rfl rfl ?_
        refine z_aload_n dX9_number_43 rfl ?_
        refine z_getI dX9_number_44 tF_9_22 hE dc_1 rfl rfl ?_
        obtain ⟨b10, hf⟩ := zchk hf
        refine z_ialoadL dX9_number_47 hE dc_2 b10 rfl ?_
        obtain ⟨r12, S11, k13, hf⟩ := zb_some hf
        refine z_callSi dX9_number_48 tM_9_32 (by decide) mt_9007 (Nat.le_of_ble_eq_true rfl) rfl rfl (ia_oks_le hn1 rfl) (Nat.le_of_ble_eq_true rfl) (w_X9_isDigit hn1 hn2 (d + 0) hE k13) (fun h hE => ?_)
        by_cases c14 : r12 = 0
        · have hf := zif_t hf c14
          refine z_if_eq_t (tgt := 90) dX9_number_51 (by decide) c14 ?_
          exact zW.sub (hex x4 x5 S11 _ hE hf) [0, 1, 2, 3, 4, 5] rfl rfl rfl rfl
        · have hf := zif_f hf c14
          refine z_if_eq_f (tgt := 90) dX9_number_51 (by decide) c14 ?_
          refine z_iload dX9_number_54 rfl ?_
          refine z_bipush (v := 10) dX9_number_56 (by decide) ?_
          refine z_imul dX9_number_58 ?_
          refine z_aload_n dX9_number_59 rfl ?_
          refine z_getC dX9_number_60 tF_9_9 hE dc_1 rfl rfl ?_
          refine z_aload_n dX9_number_63 rfl ?_
          refine z_getI dX9_number_64 tF_9_22 hE dc_1 rfl rfl ?_
          obtain ⟨b15, hf⟩ := zchk hf
          refine z_ialoadL dX9_number_67 hE dc_2 b15 rfl ?_
          refine z_iadd dX9_number_68 ?_
          refine z_bipush (v := 48) dX9_number_69 (by decide) ?_
          refine z_isub dX9_number_71 ?_
          obtain ⟨y16, ey16, hf⟩ := zl_some hf
          refine z_topi ey16 ?_
          refine z_istore (lv' := [(4, .int y16), (0, .ref 1), (1, .int i1), (2, .int i2), (3, .int i3), (5, .int x5)]) dX9_number_72 (by decide) rfl ?_
          refine z_aload_n dX9_number_74 rfl ?_
          refine z_dup dX9_number_75 rfl ?_
          refine z_getI dX9_number_76 tF_9_22 hE dc_1 rfl rfl ?_
          refine z_iconst (v := 1) dX9_number_79 (by decide) ?_
          refine z_iadd dX9_number_80 ?_
          obtain ⟨S17, eS17, hf⟩ := zl_some hf
          refine z_putI dX9_number_81 tF_9_22 hE dc_1 rfl rfl rfl rfl (fun h hE => ?_)
          rw [← eS17] at hE
          obtain ⟨y18, ey18, hf⟩ := zl_some hf
          refine z_iincY (v := 1) (y := y18) (lv' := [(5, .int y18), (4, .int y16), (0, .ref 1), (1, .int i1), (2, .int i2), (3, .int i3)]) dX9_number_84 rfl (by decide) (by decide) ey18 rfl ?_
          refine z_goto (tgt := 22) dX9_number_87 (by decide) ?_
          exact zW.sub (ih y16 y18 S17 _ hE hf) [2, 3, 4, 5, 1, 0] rfl rfl rfl rfl
theorem w_X9_number {L : Nat} {xs : Nat → Int32} {fm : Bool} {h0 : Nat → va_E} {t : Nat × Nat × Nat} (hn1 : 64 ≤ t.1) (hn2 : t.1 ≤ 1000000) (d : Nat) {h : Nat → va_E} {S : zS} (hE : zE (zDc t.1) h0 S (h, t)) {v1 : Int32} {v2 : Int32} {v3 : Int32} {R : Int32 × zS} (hf : f_X9_number v1 v2 v3 S = some R) : zC (ia_P0 L xs fm) (d + 2) 9006 [.ref 1, .int v1, .int v2, .int v3] (h, t) (zQi (zDc t.1) h0 t R) := by
  refine zC_of mt_9006 nn_9006 (Nat.le_of_ble_eq_true rfl) ?_
  refine zW_lv (lv' := [(0, .ref 1), (1, .int v1), (2, .int v2), (3, .int v3)]) rfl ?_
  unfold f_X9_number at hf
  refine z_aload_n dX9_number_0 rfl ?_
  obtain ⟨r2, S1, k3, hf⟩ := zb_some hf
  refine z_callVi dX9_number_1 tM_9_25 mt_9004 (Nat.le_of_ble_eq_true rfl) rfl rfl (z_recv hE dc_1 rfl) rfl (ia_oks_le hn1 rfl) (Nat.le_of_ble_eq_true rfl) (w_X9_sign hn1 hn2 (d + 0) hE k3) (fun h hE => ?_)
  obtain ⟨r5, S4, k6, hf⟩ := zb_some hf
  refine z_callSi dX9_number_4 tM_9_32 (by decide) mt_9007 (Nat.le_of_ble_eq_true rfl) rfl rfl (ia_oks_le hn1 rfl) (Nat.le_of_ble_eq_true rfl) (w_X9_isDigit hn1 hn2 (d + 0) hE k6) (fun h hE => ?_)
  by_cases c7 : ¬ r5 = 0
  · have hf := zif_t hf c7
    refine z_if_ne_t (tgt := 16) dX9_number_7 (by decide) c7 ?_
    refine z_iconst (v := 0) dX9_number_16 (by decide) ?_
    refine z_istore (lv' := [(4, .int 0), (0, .ref 1), (1, .int v1), (2, .int v2), (3, .int v3)]) dX9_number_17 (by decide) rfl ?_
    refine z_iconst (v := 0) dX9_number_19 (by decide) ?_
    refine z_istore (lv' := [(5, .int 0), (4, .int 0), (0, .ref 1), (1, .int v1), (2, .int v2), (3, .int v3)]) dX9_number_20 (by decide) rfl ?_
    refine zW.sub (w_X9_number_L22 hn1 hn2 d (fun q20 q21 S19 h hE hf => ?_) zN 0 0 S4 h hE hf) [2, 3, 4, 5, 1, 0] rfl rfl rfl rfl
    try dsimp only at hf
    refine z_aload_n dX9_number_90 rfl ?_
    refine z_getI dX9_number_91 tF_9_22 hE dc_1 rfl rfl ?_
    refine z_aload_n dX9_number_94 rfl ?_
    refine z_getI dX9_number_95 tF_9_19 hE dc_1 rfl rfl ?_
    obtain ⟨J23, eJ23, hf⟩ := zl_some hf
    have hJ23 : ∀ (S24 : zS) (h : Nat → va_E), zE (zDc t.1) h0 S24 (h, t) → J23 S24 = some R → zW (ia_P0 L xs fm) ia_nx (d + 1) 9 false cX9_number 6 (some .int) 123 [(0, .ref 1), (1, .int v1), (2, .int v2), (3, .int v3), (4, .int q20), (5, .int q21)] [] (h, t) (zQi (zDc t.1) h0 t R) := by
      intro S24 h hE hf
      rw [eJ23] at hf
      refine z_iload dX9_number_123 rfl ?_
      refine z_iload_n dX9_number_125 rfl ?_
      obtain ⟨J26, eJ26, hf⟩ := zl_some hf
      have hJ26 : ∀ (u27 : Unit) (h : Nat → va_E), zE (zDc t.1) h0 S24 (h, t) → J26 u27 = some R → zW (ia_P0 L xs fm) ia_nx (d + 1) 9 false cX9_number 6 (some .int) 135 [(0, .ref 1), (1, .int v1), (2, .int v2), (3, .int v3), (4, .int q20), (5, .int q21)] [] (h, t) (zQi (zDc t.1) h0 t R) := by
        intro u27 h hE hf
        rw [eJ26] at hf
        refine z_aload_n dX9_number_135 rfl ?_
        refine z_aload_n dX9_number_136 rfl ?_
        refine z_getI dX9_number_137 tF_9_22 hE dc_1 rfl rfl ?_
        refine z_iconst (v := 1) dX9_number_140 (by decide) ?_
        refine z_isub dX9_number_141 ?_
        obtain ⟨S28, eS28, hf⟩ := zl_some hf
        refine z_putI dX9_number_142 tF_9_15 hE dc_1 rfl rfl rfl rfl (fun h hE => ?_)
        rw [← eS28] at hE
        refine z_iload dX9_number_145 rfl ?_
        have e_ := Option.some.inj hf
        subst e_
        exact z_ireturn dX9_number_147 rfl ⟨h, rfl, rfl, hE⟩
      by_cases c25 : q20 < v2
      · have hf := zif_t hf c25
        refine z_icmp_lt_t (tgt := 135) dX9_number_126 (by decide) c25 ?_
        exact zW.sub (hJ26 () _ hE hf) [0, 1, 2, 3, 4, 5] rfl rfl rfl rfl
      · have hf := zif_f hf c25
        refine z_icmp_lt_f (tgt := 135) dX9_number_126 (by decide) c25 ?_
        refine z_iload dX9_number_129 rfl ?_
        refine z_iload_n dX9_number_131 rfl ?_
        by_cases c29 : q20 ≤ v3
        · have hf := zif_t hf c29
          refine z_icmp_le_t (tgt := 145) dX9_number_132 (by decide) c29 ?_
          refine z_iload dX9_number_145 rfl ?_
          have e_ := Option.some.inj hf
          subst e_
          exact z_ireturn dX9_number_147 rfl ⟨h, rfl, rfl, hE⟩
        · have hf := zif_f hf c29
          refine z_icmp_le_f (tgt := 145) dX9_number_132 (by decide) c29 ?_
          exact zW.sub (hJ26 () _ hE hf) [0, 1, 2, 3, 4, 5] rfl rfl rfl rfl
    by_cases c22 : (S19.1 1 1) ≤ (S19.1 1 2)
    · have hf := zif_t hf c22
      refine z_icmp_ge_t (tgt := 123) dX9_number_98 (by decide) c22 ?_
      exact zW.sub (hJ23 S19 _ hE hf) [0, 1, 2, 3, 4, 5] rfl rfl rfl rfl
    · have hf := zif_f hf c22
      refine z_icmp_ge_f (tgt := 123) dX9_number_98 (by decide) c22 ?_
      refine z_aload_n dX9_number_101 rfl ?_
      refine z_getC dX9_number_102 tF_9_9 hE dc_1 rfl rfl ?_
      refine z_aload_n dX9_number_105 rfl ?_
      refine z_getI dX9_number_106 tF_9_22 hE dc_1 rfl rfl ?_
      obtain ⟨b30, hf⟩ := zchk hf
      refine z_ialoadL dX9_number_109 hE dc_2 b30 rfl ?_
      obtain ⟨r32, S31, k33, hf⟩ := zb_some hf
      refine z_callSi dX9_number_110 tM_9_32 (by decide) mt_9007 (Nat.le_of_ble_eq_true rfl) rfl rfl (ia_oks_le hn1 rfl) (Nat.le_of_ble_eq_true rfl) (w_X9_isDigit hn1 hn2 (d + 0) hE k33) (fun h hE => ?_)
      by_cases c34 : r32 = 0
      · have hf := zif_t hf c34
        refine z_if_eq_t (tgt := 123) dX9_number_113 (by decide) c34 ?_
        exact zW.sub (hJ23 S31 _ hE hf) [0, 1, 2, 3, 4, 5] rfl rfl rfl rfl
      · have hf := zif_f hf c34
        refine z_if_eq_f (tgt := 123) dX9_number_113 (by decide) c34 ?_
        refine z_aload_n dX9_number_116 rfl ?_
        obtain ⟨r36, S35, k37, hf⟩ := zb_some hf
        refine z_callVv dX9_number_117 tM_9_29 mt_9005 (Nat.le_of_ble_eq_true rfl) rfl rfl (z_recv hE dc_1 rfl) rfl (ia_oks_le hn1 rfl) (Nat.le_of_ble_eq_true rfl) (w_X9_fail hn1 hn2 (d + 0) hE k37) (fun h hE => ?_)
        refine z_goto (tgt := 145) dX9_number_120 (by decide) ?_
        refine z_iload dX9_number_145 rfl ?_
        have e_ := Option.some.inj hf
        subst e_
        exact z_ireturn dX9_number_147 rfl ⟨h, rfl, rfl, hE⟩
  · have hf := zif_f hf c7
    refine z_if_ne_f (tgt := 16) dX9_number_7 (by decide) c7 ?_
    refine z_aload_n dX9_number_10 rfl ?_
    obtain ⟨r39, S38, k40, hf⟩ := zb_some hf
    refine z_callVv dX9_number_11 tM_9_29 mt_9005 (Nat.le_of_ble_eq_true rfl) rfl rfl (z_recv hE dc_1 rfl) rfl (ia_oks_le hn1 rfl) (Nat.le_of_ble_eq_true rfl) (w_X9_fail hn1 hn2 (d + 0) hE k40) (fun h hE => ?_)
    refine z_iload_n dX9_number_14 rfl ?_
    have e_ := Option.some.inj hf
    subst e_
    exact z_ireturn dX9_number_15 rfl ⟨h, rfl, rfl, hE⟩
def f_X4_readItems_L25 (ex : Int32 → Int32 → Int32 → zS → Option (Unit × zS)) (i1 : Int32) (i2 : Int32) : Nat → Int32 → Int32 → Int32 → zS → Option (Unit × zS)
  | 0, _, _, _, _ => none
  | k + 1, x4, x5, x6, S =>
    if 200 ≤ x6 then
    ex x4 x5 x6 S
    else
    if x5 < 0 then
    ex x4 x5 x6 S
    else
    if ¬ ((x4 >>> (x5 &&& 31)) &&& 1) = 0 then
    ex x4 x5 x6 S
    else
    zl (x4 ||| (1 <<< (x5 &&& 31))) fun (y13 : Int32) =>
    zl (sV S 1 2 ((S.1 1 2) + 1)) fun S14 =>
    if ia_in i1 3 = true then
    zl ((zc_1000004 i1.toNatClampNeg) + x5) fun (y16 : Int32) =>
    if ia_in y16 13 = true then
    if ia_in y16 13 = true then
    zb (f_X9_number 2 (zc_1000005 y16.toNatClampNeg) (zc_1000006 y16.toNatClampNeg) S14) fun r20 S19 =>
    zb (f_X10_cellOf i1 i2 x5 S19) fun r23 S22 =>
    if ia_in r23 62 = true then
    zl (sV S22 6 (r23.toNatClampNeg) r20) fun S26 =>
    zb (f_X9_sign S26) fun r28 S27 =>
    zb (f_J0_indexOf_0f7a4_1000101 ((r28.toUInt32 % 65536).toInt32) S27) fun r31 S30 =>
    zl (x6 + 1) fun (y33 : Int32) =>
    f_X4_readItems_L25 ex i1 i2 k y13 r31 y33 S30
    else none
    else none
    else none
    else none
def f_X4_readItems_L25a (ex : Int32 → Int32 → Int32 → zS → Option (Unit × zS)) (i1 : Int32) (i2 : Int32) : Nat → Int32 → Int32 → Int32 → zS → Option (Unit × zS)
  | 0, _, _, _, _ => none
  | k + 1, x4, x5, x6, S =>
    if 200 ≤ x6 then
    ex x4 x5 x6 S
    else
    if x5 < 0 then
    ex x4 x5 x6 S
    else
    if ¬ ((x4 >>> (x5 &&& 31)) &&& 1) = 0 then
    ex x4 x5 x6 S
    else
    zl (x4 ||| (1 <<< (x5 &&& 31))) fun (y48 : Int32) =>
    zl (sV S 1 2 ((S.1 1 2) + 1)) fun S49 =>
    if ia_in i1 3 = true then
    zl ((zc_1000004 i1.toNatClampNeg) + x5) fun (y51 : Int32) =>
    if ia_in y51 13 = true then
    if ia_in y51 13 = true then
    zb (f_X9_number 2 (zc_1000005 y51.toNatClampNeg) (zc_1000006 y51.toNatClampNeg) S49) fun r55 S54 =>
    zb (f_X10_cellOf i1 i2 x5 S54) fun r58 S57 =>
    if ia_in r58 62 = true then
    zl (sV S57 6 (r58.toNatClampNeg) r55) fun S61 =>
    zb (f_X9_sign S61) fun r63 S62 =>
    zb (f_J0_indexOf_0f7a4_1000102 ((r63.toUInt32 % 65536).toInt32) S62) fun r66 S65 =>
    zl (x6 + 1) fun (y68 : Int32) =>
    f_X4_readItems_L25a ex i1 i2 k y48 r66 y68 S65
    else none
    else none
    else none
    else none
def f_X4_readItems_L25b (ex : Int32 → Int32 → Int32 → zS → Option (Unit × zS)) (i1 : Int32) (i2 : Int32) : Nat → Int32 → Int32 → Int32 → zS → Option (Unit × zS)
  | 0, _, _, _, _ => none
  | k + 1, x4, x5, x6, S =>
    if 200 ≤ x6 then
    ex x4 x5 x6 S
    else
    if x5 < 0 then
    ex x4 x5 x6 S
    else
    if ¬ ((x4 >>> (x5 &&& 31)) &&& 1) = 0 then
    ex x4 x5 x6 S
    else
    zl (x4 ||| (1 <<< (x5 &&& 31))) fun (y83 : Int32) =>
    zl (sV S 1 2 ((S.1 1 2) + 1)) fun S84 =>
    if ia_in i1 3 = true then
    zl ((zc_1000004 i1.toNatClampNeg) + x5) fun (y86 : Int32) =>
    if ia_in y86 13 = true then
    if ia_in y86 13 = true then
    zb (f_X9_number 2 (zc_1000005 y86.toNatClampNeg) (zc_1000006 y86.toNatClampNeg) S84) fun r90 S89 =>
    zb (f_X10_cellOf i1 i2 x5 S89) fun r93 S92 =>
    if ia_in r93 62 = true then
    zl (sV S92 6 (r93.toNatClampNeg) r90) fun S96 =>
    zb (f_X9_sign S96) fun r98 S97 =>
    zb (f_J0_indexOf_0f7a4_1000103 ((r98.toUInt32 % 65536).toInt32) S97) fun r101 S100 =>
    zl (x6 + 1) fun (y103 : Int32) =>
    f_X4_readItems_L25b ex i1 i2 k y83 r101 y103 S100
    else none
    else none
    else none
    else none
def f_X4_readItems (v1 : Int32) (v2 : Int32) (S : zS) : Option (Unit × zS) :=
zb (f_X4_lettersOf v1 S) fun r2 S1 =>
if r2 = .ref 1000101 then
zb (f_X9_sign S1) fun r5 S4 =>
zb (f_J0_indexOf_0f7a4_1000101 ((r5.toUInt32 % 65536).toInt32) S4) fun r8 S7 =>
f_X4_readItems_L25 (fun (q35 : Int32) (q36 : Int32) (q37 : Int32) (S34 : zS) =>
some ((), S34)) v1 v2 zN 0 r8 0 S7
else if r2 = .ref 1000102 then
zb (f_X9_sign S1) fun r40 S39 =>
zb (f_J0_indexOf_0f7a4_1000102 ((r40.toUInt32 % 65536).toInt32) S39) fun r43 S42 =>
f_X4_readItems_L25a (fun (q70 : Int32) (q71 : Int32) (q72 : Int32) (S69 : zS) =>
some ((), S69)) v1 v2 zN 0 r43 0 S42
else if r2 = .ref 1000103 then
zb (f_X9_sign S1) fun r75 S74 =>
zb (f_J0_indexOf_0f7a4_1000103 ((r75.toUInt32 % 65536).toInt32) S74) fun r78 S77 =>
f_X4_readItems_L25b (fun (q105 : Int32) (q106 : Int32) (q107 : Int32) (S104 : zS) =>
some ((), S104)) v1 v2 zN 0 r78 0 S77
else none
theorem w_X4_readItems_L25 {L : Nat} {xs : Nat → Int32} {fm : Bool} {h0 : Nat → va_E} {t : Nat × Nat × Nat} (hn1 : 64 ≤ t.1) (hn2 : t.1 ≤ 1000000) (d : Nat) {ex : Int32 → Int32 → Int32 → zS → Option (Unit × zS)} {i1 : Int32} {i2 : Int32} {R : Unit × zS} (hex : ∀ (x4 : Int32) (x5 : Int32) (x6 : Int32) (S : zS) (h : Nat → va_E), zE (zDc t.1) h0 S (h, t) → ex x4 x5 x6 S = some R → zW (ia_P0 L xs fm) ia_nx (d + 4) 4 false cX4_readItems 9 (none) 139 [(0, .ref 3), (1, .int i1), (2, .int i2), (3, .ref 1000101), (4, .int x4), (5, .int x5), (6, .int x6)] [] (h, t) (zQv (zDc t.1) h0 t R)) : ∀ (k : Nat) (x4 : Int32) (x5 : Int32) (x6 : Int32) (S : zS) (h : Nat → va_E), zE (zDc t.1) h0 S (h, t) → f_X4_readItems_L25 ex i1 i2 k x4 x5 x6 S = some R → zW (ia_P0 L xs fm) ia_nx (d + 4) 4 false cX4_readItems 9 (none) 25 [(0, .ref 3), (1, .int i1), (2, .int i2), (3, .ref 1000101), (4, .int x4), (5, .int x5), (6, .int x6)] [] (h, t) (zQv (zDc t.1) h0 t R) := by
  intro k
  induction k with
  | zero => intro x4 x5 x6 S h hE hf; cases hf
  | succ k ih =>
    intro x4 x5 x6 S h hE hf
    unfold f_X4_readItems_L25 at hf
    refine z_iload dX4_readItems_25 rfl ?_
    refine z_sipush (v := 200) dX4_readItems_27 (by decide) ?_
    by_cases c10 : 200 ≤ x6
    · have hf := zif_t hf c10
      refine z_icmp_ge_t (tgt := 139) dX4_readItems_30 (by decide) c10 ?_
      exact zW.sub (hex x4 x5 x6 S _ hE hf) [0, 1, 2, 3, 4, 5, 6] rfl rfl rfl rfl
    · have hf := zif_f hf c10
      refine z_icmp_ge_f (tgt := 139) dX4_readItems_30 (by decide) c10 ?_
      refine z_iload dX4_readItems_33 rfl ?_
      by_cases c11 : x5 < 0
      · have hf := zif_t hf c11
        refine z_if_lt_t (tgt := 139) dX4_readItems_35 (by decide) c11 ?_
        exact zW.sub (hex x4 x5 x6 S _ hE hf) [0, 1, 2, 3, 4, 5, 6] rfl rfl rfl rfl
      · have hf := zif_f hf c11
        refine z_if_lt_f (tgt := 139) dX4_readItems_35 (by decide) c11 ?_
        refine z_iload dX4_readItems_38 rfl ?_
        refine z_iload dX4_readItems_40 rfl ?_
        refine z_ishr dX4_readItems_42 ?_
        refine z_iconst (v := 1) dX4_readItems_43 (by decide) ?_
        refine z_iand dX4_readItems_44 ?_
        by_cases c12 : ¬ ((x4 >>> (x5 &&& 31)) &&& 1) = 0
        · have hf := zif_t hf c12
          refine z_if_ne_t (tgt := 139) dX4_readItems_45 (by decide) c12 ?_
          exact zW.sub (hex x4 x5 x6 S _ hE hf) [0, 1, 2, 3, 4, 5, 6] rfl rfl rfl rfl
        · have hf := zif_f hf c12
          refine z_if_ne_f (tgt := 139) dX4_readItems_45 (by decide) c12 ?_
          refine z_iload dX4_readItems_48 rfl ?_
          refine z_iconst (v := 1) dX4_readItems_50 (by decide) ?_
          refine z_iload dX4_readItems_51 rfl ?_
          refine z_ishl dX4_readItems_53 ?_
          refine z_ior dX4_readItems_54 ?_
          obtain ⟨y13, ey13, hf⟩ := zl_some hf
          refine z_topi ey13 ?_
          refine z_istore (lv' := [(4, .int y13), (0, .ref 3), (1, .int i1), (2, .int i2), (3, .ref 1000101), (5, .int x5), (6, .int x6)]) dX4_readItems_55 (by decide) rfl ?_
          refine z_aload_n dX4_readItems_57 rfl ?_
          refine z_getC dX4_readItems_58 tF_4_18 hE dc_3 rfl rfl ?_
          refine z_dup dX4_readItems_61 rfl ?_
          refine z_getI dX4_readItems_62 tF_4_66 hE dc_1 rfl rfl ?_
          refine z_iconst (v := 1) dX4_readItems_65 (by decide) ?_
          refine z_iadd dX4_readItems_66 ?_
          obtain ⟨S14, eS14, hf⟩ := zl_some hf
          refine z_putI dX4_readItems_67 tF_4_66 hE dc_1 rfl rfl rfl rfl (fun h hE => ?_)
          rw [← eS14] at hE
          refine z_getstatic dX4_readItems_70 tS_4_82 ?_
          refine z_iload_n dX4_readItems_73 rfl ?_
          obtain ⟨b15, hf⟩ := zchk hf
          refine z_ialoadC dX4_readItems_74 (by decide) hn2 hc_1000004 b15 ?_
          refine z_iload dX4_readItems_75 rfl ?_
          refine z_iadd dX4_readItems_77 ?_
          obtain ⟨y16, ey16, hf⟩ := zl_some hf
          refine z_topi ey16 ?_
          refine z_istore (lv' := [(7, .int y16), (4, .int y13), (0, .ref 3), (1, .int i1), (2, .int i2), (3, .ref 1000101), (5, .int x5), (6, .int x6)]) dX4_readItems_78 (by decide) rfl ?_
          refine z_aload_n dX4_readItems_80 rfl ?_
          refine z_getC dX4_readItems_81 tF_4_18 hE dc_3 rfl rfl ?_
          refine z_iconst (v := 2) dX4_readItems_84 (by decide) ?_
          refine z_getstatic dX4_readItems_85 tS_4_93 ?_
          refine z_iload dX4_readItems_88 rfl ?_
          obtain ⟨b17, hf⟩ := zchk hf
          refine z_ialoadC dX4_readItems_90 (by decide) hn2 hc_1000005 b17 ?_
          refine z_getstatic dX4_readItems_91 tS_4_96 ?_
          refine z_iload dX4_readItems_94 rfl ?_
          obtain ⟨b18, hf⟩ := zchk hf
          refine z_ialoadC dX4_readItems_96 (by decide) hn2 hc_1000006 b18 ?_
          obtain ⟨r20, S19, k21, hf⟩ := zb_some hf
          refine z_callVi dX4_readItems_97 tM_4_99 mt_9006 (Nat.le_of_ble_eq_true rfl) rfl rfl (z_recv hE dc_1 rfl) rfl (ia_oks_le hn1 rfl) (Nat.le_of_ble_eq_true rfl) (w_X9_number hn1 hn2 (d + 2) hE k21) (fun h hE => ?_)
          refine z_istore (lv' := [(8, .int r20), (7, .int y16), (4, .int y13), (0, .ref 3), (1, .int i1), (2, .int i2), (3, .ref 1000101), (5, .int x5), (6, .int x6)]) dX4_readItems_100 (by decide) rfl ?_
          refine z_aload_n dX4_readItems_102 rfl ?_
          refine z_getC dX4_readItems_103 tF_4_12 hE dc_3 rfl rfl ?_
          refine z_getC dX4_readItems_106 tF_4_72 hE dc_4 rfl rfl ?_
          refine z_iload_n dX4_readItems_109 rfl ?_
          refine z_iload_n dX4_readItems_110 rfl ?_
          refine z_iload dX4_readItems_111 rfl ?_
          obtain ⟨r23, S22, k24, hf⟩ := zb_some hf
          refine z_callSi dX4_readItems_113 tM_4_75 (by decide) mt_10002 (Nat.le_of_ble_eq_true rfl) rfl rfl (ia_oks_le hn1 rfl) (Nat.le_of_ble_eq_true rfl) (w_X10_cellOf hn1 hn2 (d + 3) hE k24) (fun h hE => ?_)
          refine z_iload dX4_readItems_116 rfl ?_
          obtain ⟨b25, hf⟩ := zchk hf
          obtain ⟨S26, eS26, hf⟩ := zl_some hf
          refine z_iastoreL (i := r23.toNatClampNeg) dX4_readItems_118 hE dc_6 b25 rfl (fun h hE => ?_)
          rw [← eS26] at hE
          refine z_aload_n dX4_readItems_119 rfl ?_
          refine z_aload_n dX4_readItems_120 rfl ?_
          refine z_getC dX4_readItems_121 tF_4_18 hE dc_3 rfl rfl ?_
          obtain ⟨r28, S27, k29, hf⟩ := zb_some hf
          refine z_callVi dX4_readItems_124 tM_4_53 mt_9004 (Nat.le_of_ble_eq_true rfl) rfl rfl (z_recv hE dc_1 rfl) rfl (ia_oks_le hn1 rfl) (Nat.le_of_ble_eq_true rfl) (w_X9_sign hn1 hn2 (d + 3) hE k29) (fun h hE => ?_)
          refine z_i2c dX4_readItems_127 ?_
          obtain ⟨r31, S30, k32, hf⟩ := zb_some hf
          refine z_callVi dX4_readItems_128 tM_4_57 mt_900000 (Nat.le_of_ble_eq_true rfl) rfl rfl (z_recvC (hp := (h, t)) (by decide) hn2 hc_1000101) rfl (ia_oks_le hn1 rfl) (Nat.le_of_ble_eq_true rfl) (w_J0_indexOf_0f7a4_1000101 hn1 hn2 (d + 0) hE k32) (fun h hE => ?_)
          refine z_istore (lv' := [(5, .int r31), (8, .int r20), (7, .int y16), (4, .int y13), (0, .ref 3), (1, .int i1), (2, .int i2), (3, .ref 1000101), (6, .int x6)]) dX4_readItems_131 (by decide) rfl ?_
          obtain ⟨y33, ey33, hf⟩ := zl_some hf
          refine z_iincY (v := 1) (y := y33) (lv' := [(6, .int y33), (5, .int r31), (8, .int r20), (7, .int y16), (4, .int y13), (0, .ref 3), (1, .int i1), (2, .int i2), (3, .ref 1000101)]) dX4_readItems_133 rfl (by decide) (by decide) ey33 rfl ?_
          refine z_goto (tgt := 25) dX4_readItems_136 (by decide) ?_
          exact zW.sub (ih y13 r31 y33 S30 _ hE hf) [5, 6, 7, 8, 4, 1, 0] rfl rfl rfl rfl
theorem w_X4_readItems_L25a {L : Nat} {xs : Nat → Int32} {fm : Bool} {h0 : Nat → va_E} {t : Nat × Nat × Nat} (hn1 : 64 ≤ t.1) (hn2 : t.1 ≤ 1000000) (d : Nat) {ex : Int32 → Int32 → Int32 → zS → Option (Unit × zS)} {i1 : Int32} {i2 : Int32} {R : Unit × zS} (hex : ∀ (x4 : Int32) (x5 : Int32) (x6 : Int32) (S : zS) (h : Nat → va_E), zE (zDc t.1) h0 S (h, t) → ex x4 x5 x6 S = some R → zW (ia_P0 L xs fm) ia_nx (d + 4) 4 false cX4_readItems 9 (none) 139 [(0, .ref 3), (1, .int i1), (2, .int i2), (3, .ref 1000102), (4, .int x4), (5, .int x5), (6, .int x6)] [] (h, t) (zQv (zDc t.1) h0 t R)) : ∀ (k : Nat) (x4 : Int32) (x5 : Int32) (x6 : Int32) (S : zS) (h : Nat → va_E), zE (zDc t.1) h0 S (h, t) → f_X4_readItems_L25a ex i1 i2 k x4 x5 x6 S = some R → zW (ia_P0 L xs fm) ia_nx (d + 4) 4 false cX4_readItems 9 (none) 25 [(0, .ref 3), (1, .int i1), (2, .int i2), (3, .ref 1000102), (4, .int x4), (5, .int x5), (6, .int x6)] [] (h, t) (zQv (zDc t.1) h0 t R) := by
  intro k
  induction k with
  | zero => intro x4 x5 x6 S h hE hf; cases hf
  | succ k ih =>
    intro x4 x5 x6 S h hE hf
    unfold f_X4_readItems_L25a at hf
    refine z_iload dX4_readItems_25 rfl ?_
    refine z_sipush (v := 200) dX4_readItems_27 (by decide) ?_
    by_cases c45 : 200 ≤ x6
    · have hf := zif_t hf c45
      refine z_icmp_ge_t (tgt := 139) dX4_readItems_30 (by decide) c45 ?_
      exact zW.sub (hex x4 x5 x6 S _ hE hf) [0, 1, 2, 3, 4, 5, 6] rfl rfl rfl rfl
    · have hf := zif_f hf c45
      refine z_icmp_ge_f (tgt := 139) dX4_readItems_30 (by decide) c45 ?_
      refine z_iload dX4_readItems_33 rfl ?_
      by_cases c46 : x5 < 0
      · have hf := zif_t hf c46
        refine z_if_lt_t (tgt := 139) dX4_readItems_35 (by decide) c46 ?_
        exact zW.sub (hex x4 x5 x6 S _ hE hf) [0, 1, 2, 3, 4, 5, 6] rfl rfl rfl rfl
      · have hf := zif_f hf c46
        refine z_if_lt_f (tgt := 139) dX4_readItems_35 (by decide) c46 ?_
        refine z_iload dX4_readItems_38 rfl ?_
        refine z_iload dX4_readItems_40 rfl ?_
        refine z_ishr dX4_readItems_42 ?_
        refine z_iconst (v := 1) dX4_readItems_43 (by decide) ?_
        refine z_iand dX4_readItems_44 ?_
        by_cases c47 : ¬ ((x4 >>> (x5 &&& 31)) &&& 1) = 0
        · have hf := zif_t hf c47
          refine z_if_ne_t (tgt := 139) dX4_readItems_45 (by decide) c47 ?_
          exact zW.sub (hex x4 x5 x6 S _ hE hf) [0, 1, 2, 3, 4, 5, 6] rfl rfl rfl rfl
        · have hf := zif_f hf c47
          refine z_if_ne_f (tgt := 139) dX4_readItems_45 (by decide) c47 ?_
          refine z_iload dX4_readItems_48 rfl ?_
          refine z_iconst (v := 1) dX4_readItems_50 (by decide) ?_
          refine z_iload dX4_readItems_51 rfl ?_
          refine z_ishl dX4_readItems_53 ?_
          refine z_ior dX4_readItems_54 ?_
          obtain ⟨y48, ey48, hf⟩ := zl_some hf
          refine z_topi ey48 ?_
          refine z_istore (lv' := [(4, .int y48), (0, .ref 3), (1, .int i1), (2, .int i2), (3, .ref 1000102), (5, .int x5), (6, .int x6)]) dX4_readItems_55 (by decide) rfl ?_
          refine z_aload_n dX4_readItems_57 rfl ?_
          refine z_getC dX4_readItems_58 tF_4_18 hE dc_3 rfl rfl ?_
          refine z_dup dX4_readItems_61 rfl ?_
          refine z_getI dX4_readItems_62 tF_4_66 hE dc_1 rfl rfl ?_
          refine z_iconst (v := 1) dX4_readItems_65 (by decide) ?_
          refine z_iadd dX4_readItems_66 ?_
          obtain ⟨S49, eS49, hf⟩ := zl_some hf
          refine z_putI dX4_readItems_67 tF_4_66 hE dc_1 rfl rfl rfl rfl (fun h hE => ?_)
          rw [← eS49] at hE
          refine z_getstatic dX4_readItems_70 tS_4_82 ?_
          refine z_iload_n dX4_readItems_73 rfl ?_
          obtain ⟨b50, hf⟩ := zchk hf
          refine z_ialoadC dX4_readItems_74 (by decide) hn2 hc_1000004 b50 ?_
          refine z_iload dX4_readItems_75 rfl ?_
          refine z_iadd dX4_readItems_77 ?_
          obtain ⟨y51, ey51, hf⟩ := zl_some hf
          refine z_topi ey51 ?_
          refine z_istore (lv' := [(7, .int y51), (4, .int y48), (0, .ref 3), (1, .int i1), (2, .int i2), (3, .ref 1000102), (5, .int x5), (6, .int x6)]) dX4_readItems_78 (by decide) rfl ?_
          refine z_aload_n dX4_readItems_80 rfl ?_
          refine z_getC dX4_readItems_81 tF_4_18 hE dc_3 rfl rfl ?_
          refine z_iconst (v := 2) dX4_readItems_84 (by decide) ?_
          refine z_getstatic dX4_readItems_85 tS_4_93 ?_
          refine z_iload dX4_readItems_88 rfl ?_
          obtain ⟨b52, hf⟩ := zchk hf
          refine z_ialoadC dX4_readItems_90 (by decide) hn2 hc_1000005 b52 ?_
          refine z_getstatic dX4_readItems_91 tS_4_96 ?_
          refine z_iload dX4_readItems_94 rfl ?_
          obtain ⟨b53, hf⟩ := zchk hf
          refine z_ialoadC dX4_readItems_96 (by decide) hn2 hc_1000006 b53 ?_
          obtain ⟨r55, S54, k56, hf⟩ := zb_some hf
          refine z_callVi dX4_readItems_97 tM_4_99 mt_9006 (Nat.le_of_ble_eq_true rfl) rfl rfl (z_recv hE dc_1 rfl) rfl (ia_oks_le hn1 rfl) (Nat.le_of_ble_eq_true rfl) (w_X9_number hn1 hn2 (d + 2) hE k56) (fun h hE => ?_)
          refine z_istore (lv' := [(8, .int r55), (7, .int y51), (4, .int y48), (0, .ref 3), (1, .int i1), (2, .int i2), (3, .ref 1000102), (5, .int x5), (6, .int x6)]) dX4_readItems_100 (by decide) rfl ?_
          refine z_aload_n dX4_readItems_102 rfl ?_
          refine z_getC dX4_readItems_103 tF_4_12 hE dc_3 rfl rfl ?_
          refine z_getC dX4_readItems_106 tF_4_72 hE dc_4 rfl rfl ?_
          refine z_iload_n dX4_readItems_109 rfl ?_
          refine z_iload_n dX4_readItems_110 rfl ?_
          refine z_iload dX4_readItems_111 rfl ?_
          obtain ⟨r58, S57, k59, hf⟩ := zb_some hf
          refine z_callSi dX4_readItems_113 tM_4_75 (by decide) mt_10002 (Nat.le_of_ble_eq_true rfl) rfl rfl (ia_oks_le hn1 rfl) (Nat.le_of_ble_eq_true rfl) (w_X10_cellOf hn1 hn2 (d + 3) hE k59) (fun h hE => ?_)
          refine z_iload dX4_readItems_116 rfl ?_
          obtain ⟨b60, hf⟩ := zchk hf
          obtain ⟨S61, eS61, hf⟩ := zl_some hf
          refine z_iastoreL (i := r58.toNatClampNeg) dX4_readItems_118 hE dc_6 b60 rfl (fun h hE => ?_)
          rw [← eS61] at hE
          refine z_aload_n dX4_readItems_119 rfl ?_
          refine z_aload_n dX4_readItems_120 rfl ?_
          refine z_getC dX4_readItems_121 tF_4_18 hE dc_3 rfl rfl ?_
          obtain ⟨r63, S62, k64, hf⟩ := zb_some hf
          refine z_callVi dX4_readItems_124 tM_4_53 mt_9004 (Nat.le_of_ble_eq_true rfl) rfl rfl (z_recv hE dc_1 rfl) rfl (ia_oks_le hn1 rfl) (Nat.le_of_ble_eq_true rfl) (w_X9_sign hn1 hn2 (d + 3) hE k64) (fun h hE => ?_)
          refine z_i2c dX4_readItems_127 ?_
          obtain ⟨r66, S65, k67, hf⟩ := zb_some hf
          refine z_callVi dX4_readItems_128 tM_4_57 mt_900000 (Nat.le_of_ble_eq_true rfl) rfl rfl (z_recvC (hp := (h, t)) (by decide) hn2 hc_1000102) rfl (ia_oks_le hn1 rfl) (Nat.le_of_ble_eq_true rfl) (w_J0_indexOf_0f7a4_1000102 hn1 hn2 (d + 0) hE k67) (fun h hE => ?_)
          refine z_istore (lv' := [(5, .int r66), (8, .int r55), (7, .int y51), (4, .int y48), (0, .ref 3), (1, .int i1), (2, .int i2), (3, .ref 1000102), (6, .int x6)]) dX4_readItems_131 (by decide) rfl ?_
          obtain ⟨y68, ey68, hf⟩ := zl_some hf
          refine z_iincY (v := 1) (y := y68) (lv' := [(6, .int y68), (5, .int r66), (8, .int r55), (7, .int y51), (4, .int y48), (0, .ref 3), (1, .int i1), (2, .int i2), (3, .ref 1000102)]) dX4_readItems_133 rfl (by decide) (by decide) ey68 rfl ?_
          refine z_goto (tgt := 25) dX4_readItems_136 (by decide) ?_
          exact zW.sub (ih y48 r66 y68 S65 _ hE hf) [5, 6, 7, 8, 4, 1, 0] rfl rfl rfl rfl
theorem w_X4_readItems_L25b {L : Nat} {xs : Nat → Int32} {fm : Bool} {h0 : Nat → va_E} {t : Nat × Nat × Nat} (hn1 : 64 ≤ t.1) (hn2 : t.1 ≤ 1000000) (d : Nat) {ex : Int32 → Int32 → Int32 → zS → Option (Unit × zS)} {i1 : Int32} {i2 : Int32} {R : Unit × zS} (hex : ∀ (x4 : Int32) (x5 : Int32) (x6 : Int32) (S : zS) (h : Nat → va_E), zE (zDc t.1) h0 S (h, t) → ex x4 x5 x6 S = some R → zW (ia_P0 L xs fm) ia_nx (d + 4) 4 false cX4_readItems 9 (none) 139 [(0, .ref 3), (1, .int i1), (2, .int i2), (3, .ref 1000103), (4, .int x4), (5, .int x5), (6, .int x6)] [] (h, t) (zQv (zDc t.1) h0 t R)) : ∀ (k : Nat) (x4 : Int32) (x5 : Int32) (x6 : Int32) (S : zS) (h : Nat → va_E), zE (zDc t.1) h0 S (h, t) → f_X4_readItems_L25b ex i1 i2 k x4 x5 x6 S = some R → zW (ia_P0 L xs fm) ia_nx (d + 4) 4 false cX4_readItems 9 (none) 25 [(0, .ref 3), (1, .int i1), (2, .int i2), (3, .ref 1000103), (4, .int x4), (5, .int x5), (6, .int x6)] [] (h, t) (zQv (zDc t.1) h0 t R) := by
  intro k
  induction k with
  | zero => intro x4 x5 x6 S h hE hf; cases hf
  | succ k ih =>
    intro x4 x5 x6 S h hE hf
    unfold f_X4_readItems_L25b at hf
    refine z_iload dX4_readItems_25 rfl ?_
    refine z_sipush (v := 200) dX4_readItems_27 (by decide) ?_
    by_cases c80 : 200 ≤ x6
    · have hf := zif_t hf c80
      refine z_icmp_ge_t (tgt := 139) dX4_readItems_30 (by decide) c80 ?_
      exact zW.sub (hex x4 x5 x6 S _ hE hf) [0, 1, 2, 3, 4, 5, 6] rfl rfl rfl rfl
    · have hf := zif_f hf c80
      refine z_icmp_ge_f (tgt := 139) dX4_readItems_30 (by decide) c80 ?_
      refine z_iload dX4_readItems_33 rfl ?_
      by_cases c81 : x5 < 0
      · have hf := zif_t hf c81
        refine z_if_lt_t (tgt := 139) dX4_readItems_35 (by decide) c81 ?_
        exact zW.sub (hex x4 x5 x6 S _ hE hf) [0, 1, 2, 3, 4, 5, 6] rfl rfl rfl rfl
      · have hf := zif_f hf c81
        refine z_if_lt_f (tgt := 139) dX4_readItems_35 (by decide) c81 ?_
        refine z_iload dX4_readItems_38 rfl ?_
        refine z_iload dX4_readItems_40 rfl ?_
        refine z_ishr dX4_readItems_42 ?_
        refine z_iconst (v := 1) dX4_readItems_43 (by decide) ?_
        refine z_iand dX4_readItems_44 ?_
        by_cases c82 : ¬ ((x4 >>> (x5 &&& 31)) &&& 1) = 0
        · have hf := zif_t hf c82
          refine z_if_ne_t (tgt := 139) dX4_readItems_45 (by decide) c82 ?_
          exact zW.sub (hex x4 x5 x6 S _ hE hf) [0, 1, 2, 3, 4, 5, 6] rfl rfl rfl rfl
        · have hf := zif_f hf c82
          refine z_if_ne_f (tgt := 139) dX4_readItems_45 (by decide) c82 ?_
          refine z_iload dX4_readItems_48 rfl ?_
          refine z_iconst (v := 1) dX4_readItems_50 (by decide) ?_
          refine z_iload dX4_readItems_51 rfl ?_
          refine z_ishl dX4_readItems_53 ?_
          refine z_ior dX4_readItems_54 ?_
          obtain ⟨y83, ey83, hf⟩ := zl_some hf
          refine z_topi ey83 ?_
          refine z_istore (lv' := [(4, .int y83), (0, .ref 3), (1, .int i1), (2, .int i2), (3, .ref 1000103), (5, .int x5), (6, .int x6)]) dX4_readItems_55 (by decide) rfl ?_
          refine z_aload_n dX4_readItems_57 rfl ?_
          refine z_getC dX4_readItems_58 tF_4_18 hE dc_3 rfl rfl ?_
          refine z_dup dX4_readItems_61 rfl ?_
          refine z_getI dX4_readItems_62 tF_4_66 hE dc_1 rfl rfl ?_
          refine z_iconst (v := 1) dX4_readItems_65 (by decide) ?_
          refine z_iadd dX4_readItems_66 ?_
          obtain ⟨S84, eS84, hf⟩ := zl_some hf
          refine z_putI dX4_readItems_67 tF_4_66 hE dc_1 rfl rfl rfl rfl (fun h hE => ?_)
          rw [← eS84] at hE
          refine z_getstatic dX4_readItems_70 tS_4_82 ?_
          refine z_iload_n dX4_readItems_73 rfl ?_
          obtain ⟨b85, hf⟩ := zchk hf
          refine z_ialoadC dX4_readItems_74 (by decide) hn2 hc_1000004 b85 ?_
          refine z_iload dX4_readItems_75 rfl ?_
          refine z_iadd dX4_readItems_77 ?_
          obtain ⟨y86, ey86, hf⟩ := zl_some hf
          refine z_topi ey86 ?_
          refine z_istore (lv' := [(7, .int y86), (4, .int y83), (0, .ref 3), (1, .int i1), (2, .int i2), (3, .ref 1000103), (5, .int x5), (6, .int x6)]) dX4_readItems_78 (by decide) rfl ?_
          refine z_aload_n dX4_readItems_80 rfl ?_
          refine z_getC dX4_readItems_81 tF_4_18 hE dc_3 rfl rfl ?_
          refine z_iconst (v := 2) dX4_readItems_84 (by decide) ?_
          refine z_getstatic dX4_readItems_85 tS_4_93 ?_
          refine z_iload dX4_readItems_88 rfl ?_
          obtain ⟨b87, hf⟩ := zchk hf
          refine z_ialoadC dX4_readItems_90 (by decide) hn2 hc_1000005 b87 ?_
          refine z_getstatic dX4_readItems_91 tS_4_96 ?_
          refine z_iload dX4_readItems_94 rfl ?_
          obtain ⟨b88, hf⟩ := zchk hf
          refine z_ialoadC dX4_readItems_96 (by decide) hn2 hc_1000006 b88 ?_
          obtain ⟨r90, S89, k91, hf⟩ := zb_some hf
          refine z_callVi dX4_readItems_97 tM_4_99 mt_9006 (Nat.le_of_ble_eq_true rfl) rfl rfl (z_recv hE dc_1 rfl) rfl (ia_oks_le hn1 rfl) (Nat.le_of_ble_eq_true rfl) (w_X9_number hn1 hn2 (d + 2) hE k91) (fun h hE => ?_)
          refine z_istore (lv' := [(8, .int r90), (7, .int y86), (4, .int y83), (0, .ref 3), (1, .int i1), (2, .int i2), (3, .ref 1000103), (5, .int x5), (6, .int x6)]) dX4_readItems_100 (by decide) rfl ?_
          refine z_aload_n dX4_readItems_102 rfl ?_
          refine z_getC dX4_readItems_103 tF_4_12 hE dc_3 rfl rfl ?_
          refine z_getC dX4_readItems_106 tF_4_72 hE dc_4 rfl rfl ?_
          refine z_iload_n dX4_readItems_109 rfl ?_
          refine z_iload_n dX4_readItems_110 rfl ?_
          refine z_iload dX4_readItems_111 rfl ?_
          obtain ⟨r93, S92, k94, hf⟩ := zb_some hf
          refine z_callSi dX4_readItems_113 tM_4_75 (by decide) mt_10002 (Nat.le_of_ble_eq_true rfl) rfl rfl (ia_oks_le hn1 rfl) (Nat.le_of_ble_eq_true rfl) (w_X10_cellOf hn1 hn2 (d + 3) hE k94) (fun h hE => ?_)
          refine z_iload dX4_readItems_116 rfl ?_
          obtain ⟨b95, hf⟩ := zchk hf
          obtain ⟨S96, eS96, hf⟩ := zl_some hf
          refine z_iastoreL (i := r93.toNatClampNeg) dX4_readItems_118 hE dc_6 b95 rfl (fun h hE => ?_)
          rw [← eS96] at hE
          refine z_aload_n dX4_readItems_119 rfl ?_
          refine z_aload_n dX4_readItems_120 rfl ?_
          refine z_getC dX4_readItems_121 tF_4_18 hE dc_3 rfl rfl ?_
          obtain ⟨r98, S97, k99, hf⟩ := zb_some hf
          refine z_callVi dX4_readItems_124 tM_4_53 mt_9004 (Nat.le_of_ble_eq_true rfl) rfl rfl (z_recv hE dc_1 rfl) rfl (ia_oks_le hn1 rfl) (Nat.le_of_ble_eq_true rfl) (w_X9_sign hn1 hn2 (d + 3) hE k99) (fun h hE => ?_)
          refine z_i2c dX4_readItems_127 ?_
          obtain ⟨r101, S100, k102, hf⟩ := zb_some hf
          refine z_callVi dX4_readItems_128 tM_4_57 mt_900000 (Nat.le_of_ble_eq_true rfl) rfl rfl (z_recvC (hp := (h, t)) (by decide) hn2 hc_1000103) rfl (ia_oks_le hn1 rfl) (Nat.le_of_ble_eq_true rfl) (w_J0_indexOf_0f7a4_1000103 hn1 hn2 (d + 0) hE k102) (fun h hE => ?_)
          refine z_istore (lv' := [(5, .int r101), (8, .int r90), (7, .int y86), (4, .int y83), (0, .ref 3), (1, .int i1), (2, .int i2), (3, .ref 1000103), (6, .int x6)]) dX4_readItems_131 (by decide) rfl ?_
          obtain ⟨y103, ey103, hf⟩ := zl_some hf
          refine z_iincY (v := 1) (y := y103) (lv' := [(6, .int y103), (5, .int r101), (8, .int r90), (7, .int y86), (4, .int y83), (0, .ref 3), (1, .int i1), (2, .int i2), (3, .ref 1000103)]) dX4_readItems_133 rfl (by decide) (by decide) ey103 rfl ?_
          refine z_goto (tgt := 25) dX4_readItems_136 (by decide) ?_
          exact zW.sub (ih y83 r101 y103 S100 _ hE hf) [5, 6, 7, 8, 4, 1, 0] rfl rfl rfl rfl
theorem w_X4_readItems {L : Nat} {xs : Nat → Int32} {fm : Bool} {h0 : Nat → va_E} {t : Nat × Nat × Nat} (hn1 : 64 ≤ t.1) (hn2 : t.1 ≤ 1000000) (d : Nat) {h : Nat → va_E} {S : zS} (hE : zE (zDc t.1) h0 S (h, t)) {v1 : Int32} {v2 : Int32} {R : Unit × zS} (hf : f_X4_readItems v1 v2 S = some R) : zC (ia_P0 L xs fm) (d + 5) 4003 [.ref 3, .int v1, .int v2] (h, t) (zQv (zDc t.1) h0 t R) := by
  refine zC_of mt_4003 nn_4003 (Nat.le_of_ble_eq_true rfl) ?_
  refine zW_lv (lv' := [(0, .ref 3), (1, .int v1), (2, .int v2)]) rfl ?_
  unfold f_X4_readItems at hf
  refine z_iload_n dX4_readItems_0 rfl ?_
  obtain ⟨r2, S1, k3, hf⟩ := zb_some hf
  refine z_callSr dX4_readItems_1 tM_4_89 (by decide) mt_4004 (Nat.le_of_ble_eq_true rfl) rfl rfl (ia_oks_le hn1 rfl) (Nat.le_of_ble_eq_true rfl) (w_X4_lettersOf hn1 hn2 (d + 3) hE k3) (fun h hE => ?_)
  by_cases c38 : r2 = .ref 1000101
  · have hf := zif_t hf c38
    refine z_topv c38 ?_
    refine z_astore_n (lv' := [(3, .ref 1000101), (0, .ref 3), (1, .int v1), (2, .int v2)]) dX4_readItems_4 (by decide) rfl ?_
    refine z_iconst (v := 0) dX4_readItems_5 (by decide) ?_
    refine z_istore (lv' := [(4, .int 0), (3, .ref 1000101), (0, .ref 3), (1, .int v1), (2, .int v2)]) dX4_readItems_6 (by decide) rfl ?_
    refine z_aload_n dX4_readItems_8 rfl ?_
    refine z_aload_n dX4_readItems_9 rfl ?_
    refine z_getC dX4_readItems_10 tF_4_18 hE dc_3 rfl rfl ?_
    obtain ⟨r5, S4, k6, hf⟩ := zb_some hf
    refine z_callVi dX4_readItems_13 tM_4_53 mt_9004 (Nat.le_of_ble_eq_true rfl) rfl rfl (z_recv hE dc_1 rfl) rfl (ia_oks_le hn1 rfl) (Nat.le_of_ble_eq_true rfl) (w_X9_sign hn1 hn2 (d + 3) hE k6) (fun h hE => ?_)
    refine z_i2c dX4_readItems_16 ?_
    obtain ⟨r8, S7, k9, hf⟩ := zb_some hf
    refine z_callVi dX4_readItems_17 tM_4_57 mt_900000 (Nat.le_of_ble_eq_true rfl) rfl rfl (z_recvC (hp := (h, t)) (by decide) hn2 hc_1000101) rfl (ia_oks_le hn1 rfl) (Nat.le_of_ble_eq_true rfl) (w_J0_indexOf_0f7a4_1000101 hn1 hn2 (d + 0) hE k9) (fun h hE => ?_)
    refine z_istore (lv' := [(5, .int r8), (4, .int 0), (3, .ref 1000101), (0, .ref 3), (1, .int v1), (2, .int v2)]) dX4_readItems_20 (by decide) rfl ?_
    refine z_iconst (v := 0) dX4_readItems_22 (by decide) ?_
    refine z_istore (lv' := [(6, .int 0), (5, .int r8), (4, .int 0), (3, .ref 1000101), (0, .ref 3), (1, .int v1), (2, .int v2)]) dX4_readItems_23 (by decide) rfl ?_
    refine zW.sub (w_X4_readItems_L25 hn1 hn2 d (fun q35 q36 q37 S34 h hE hf => ?_) zN 0 r8 0 S7 h hE hf) [4, 5, 6, 3, 2, 1, 0] rfl rfl rfl rfl
    try dsimp only at hf
    have e_ := Option.some.inj hf
    subst e_
    exact z_vreturn dX4_readItems_139 rfl ⟨h, rfl, rfl, hE⟩
  · have hf := zif_f hf c38
    by_cases c73 : r2 = .ref 1000102
    · have hf := zif_t hf c73
      refine z_topv c73 ?_
      refine z_astore_n (lv' := [(3, .ref 1000102), (0, .ref 3), (1, .int v1), (2, .int v2)]) dX4_readItems_4 (by decide) rfl ?_
      refine z_iconst (v := 0) dX4_readItems_5 (by decide) ?_
      refine z_istore (lv' := [(4, .int 0), (3, .ref 1000102), (0, .ref 3), (1, .int v1), (2, .int v2)]) dX4_readItems_6 (by decide) rfl ?_
      refine z_aload_n dX4_readItems_8 rfl ?_
      refine z_aload_n dX4_readItems_9 rfl ?_
      refine z_getC dX4_readItems_10 tF_4_18 hE dc_3 rfl rfl ?_
      obtain ⟨r40, S39, k41, hf⟩ := zb_some hf
      refine z_callVi dX4_readItems_13 tM_4_53 mt_9004 (Nat.le_of_ble_eq_true rfl) rfl rfl (z_recv hE dc_1 rfl) rfl (ia_oks_le hn1 rfl) (Nat.le_of_ble_eq_true rfl) (w_X9_sign hn1 hn2 (d + 3) hE k41) (fun h hE => ?_)
      refine z_i2c dX4_readItems_16 ?_
      obtain ⟨r43, S42, k44, hf⟩ := zb_some hf
      refine z_callVi dX4_readItems_17 tM_4_57 mt_900000 (Nat.le_of_ble_eq_true rfl) rfl rfl (z_recvC (hp := (h, t)) (by decide) hn2 hc_1000102) rfl (ia_oks_le hn1 rfl) (Nat.le_of_ble_eq_true rfl) (w_J0_indexOf_0f7a4_1000102 hn1 hn2 (d + 0) hE k44) (fun h hE => ?_)
      refine z_istore (lv' := [(5, .int r43), (4, .int 0), (3, .ref 1000102), (0, .ref 3), (1, .int v1), (2, .int v2)]) dX4_readItems_20 (by decide) rfl ?_
      refine z_iconst (v := 0) dX4_readItems_22 (by decide) ?_
      refine z_istore (lv' := [(6, .int 0), (5, .int r43), (4, .int 0), (3, .ref 1000102), (0, .ref 3), (1, .int v1), (2, .int v2)]) dX4_readItems_23 (by decide) rfl ?_
      refine zW.sub (w_X4_readItems_L25a hn1 hn2 d (fun q70 q71 q72 S69 h hE hf => ?_) zN 0 r43 0 S42 h hE hf) [4, 5, 6, 3, 2, 1, 0] rfl rfl rfl rfl
      try dsimp only at hf
      have e_ := Option.some.inj hf
      subst e_
      exact z_vreturn dX4_readItems_139 rfl ⟨h, rfl, rfl, hE⟩
    · have hf := zif_f hf c73
      by_cases c108 : r2 = .ref 1000103
      · have hf := zif_t hf c108
        refine z_topv c108 ?_
        refine z_astore_n (lv' := [(3, .ref 1000103), (0, .ref 3), (1, .int v1), (2, .int v2)]) dX4_readItems_4 (by decide) rfl ?_
        refine z_iconst (v := 0) dX4_readItems_5 (by decide) ?_
        refine z_istore (lv' := [(4, .int 0), (3, .ref 1000103), (0, .ref 3), (1, .int v1), (2, .int v2)]) dX4_readItems_6 (by decide) rfl ?_
        refine z_aload_n dX4_readItems_8 rfl ?_
        refine z_aload_n dX4_readItems_9 rfl ?_
        refine z_getC dX4_readItems_10 tF_4_18 hE dc_3 rfl rfl ?_
        obtain ⟨r75, S74, k76, hf⟩ := zb_some hf
        refine z_callVi dX4_readItems_13 tM_4_53 mt_9004 (Nat.le_of_ble_eq_true rfl) rfl rfl (z_recv hE dc_1 rfl) rfl (ia_oks_le hn1 rfl) (Nat.le_of_ble_eq_true rfl) (w_X9_sign hn1 hn2 (d + 3) hE k76) (fun h hE => ?_)
        refine z_i2c dX4_readItems_16 ?_
        obtain ⟨r78, S77, k79, hf⟩ := zb_some hf
        refine z_callVi dX4_readItems_17 tM_4_57 mt_900000 (Nat.le_of_ble_eq_true rfl) rfl rfl (z_recvC (hp := (h, t)) (by decide) hn2 hc_1000103) rfl (ia_oks_le hn1 rfl) (Nat.le_of_ble_eq_true rfl) (w_J0_indexOf_0f7a4_1000103 hn1 hn2 (d + 0) hE k79) (fun h hE => ?_)
        refine z_istore (lv' := [(5, .int r78), (4, .int 0), (3, .ref 1000103), (0, .ref 3), (1, .int v1), (2, .int v2)]) dX4_readItems_20 (by decide) rfl ?_
        refine z_iconst (v := 0) dX4_readItems_22 (by decide) ?_
        refine z_istore (lv' := [(6, .int 0), (5, .int r78), (4, .int 0), (3, .ref 1000103), (0, .ref 3), (1, .int v1), (2, .int v2)]) dX4_readItems_23 (by decide) rfl ?_
        refine zW.sub (w_X4_readItems_L25b hn1 hn2 d (fun q105 q106 q107 S104 h hE hf => ?_) zN 0 r78 0 S77 h hE hf) [4, 5, 6, 3, 2, 1, 0] rfl rfl rfl rfl
        try dsimp only at hf
        have e_ := Option.some.inj hf
        subst e_
        exact z_vreturn dX4_readItems_139 rfl ⟨h, rfl, rfl, hE⟩
      · have hf := zif_f hf c108
        cases hf
def f_X4_readClause_L81 (ex : Int32 → zS → Option (Unit × zS)) (i1 : Int32) (i2 : Int32) : Nat → Int32 → zS → Option (Unit × zS)
  | 0, _, _ => none
  | k + 1, x3, S =>
    if ia_in i1 3 = true then
    if (zc_1000002 i1.toNatClampNeg) ≤ x3 then
    ex x3 S
    else
    zb (f_X10_cellOf i1 i2 x3 S) fun r25 S24 =>
    if ia_in i1 3 = true then
    if ia_in ((zc_1000004 i1.toNatClampNeg) + x3) 13 = true then
    if ia_in r25 62 = true then
    zl (sV S24 6 (r25.toNatClampNeg) (zc_1000007 ((zc_1000004 i1.toNatClampNeg) + x3).toNatClampNeg)) fun S30 =>
    zl (x3 + 1) fun (y31 : Int32) =>
    f_X4_readClause_L81 ex i1 i2 k y31 S30
    else none
    else none
    else none
    else none
def f_X4_readClause  (S : zS) : Option (Unit × zS) :=
zb (f_X9_sign S) fun r2 S1 =>
zb (f_J0_indexOf_0f7a4_1000100 ((r2.toUInt32 % 65536).toInt32) S1) fun r5 S4 =>
zl (fun (u9 : Unit) =>
zb (f_X9_fail S4) fun _ S10 =>
some ((), S10)) fun J8 =>
if r5 < 0 then
J8 ()
else
if ia_in r5 3 = true then
if ia_in r5 3 = true then
if (S4.1 5 r5.toNatClampNeg) < (zc_1000001 r5.toNatClampNeg) then
zl (sV S4 1 2 ((S4.1 1 2) + 1)) fun S16 =>
if ia_in r5 3 = true then
zl (S16.1 5 r5.toNatClampNeg) fun (y18 : Int32) =>
if ia_in r5 3 = true then
if ia_in r5 3 = true then
zl (sV S16 5 (r5.toNatClampNeg) ((S16.1 5 r5.toNatClampNeg) + 1)) fun S21 =>
f_X4_readClause_L81 (fun (q33 : Int32) (S32 : zS) =>
zb (f_X4_readItems r5 y18 S32) fun _ S34 =>
some ((), S34)) r5 y18 zN 0 S21
else none
else none
else none
else
J8 ()
else none
else none
theorem w_X4_readClause_L81 {L : Nat} {xs : Nat → Int32} {fm : Bool} {h0 : Nat → va_E} {t : Nat × Nat × Nat} (hn1 : 64 ≤ t.1) (hn2 : t.1 ≤ 1000000) (d : Nat) {ex : Int32 → zS → Option (Unit × zS)} {i1 : Int32} {i2 : Int32} {R : Unit × zS} (hex : ∀ (x3 : Int32) (S : zS) (h : Nat → va_E), zE (zDc t.1) h0 S (h, t) → ex x3 S = some R → zW (ia_P0 L xs fm) ia_nx (d + 5) 4 false cX4_readClause 4 (none) 121 [(0, .ref 3), (1, .int i1), (2, .int i2), (3, .int x3)] [] (h, t) (zQv (zDc t.1) h0 t R)) : ∀ (k : Nat) (x3 : Int32) (S : zS) (h : Nat → va_E), zE (zDc t.1) h0 S (h, t) → f_X4_readClause_L81 ex i1 i2 k x3 S = some R → zW (ia_P0 L xs fm) ia_nx (d + 5) 4 false cX4_readClause 4 (none) 81 [(0, .ref 3), (1, .int i1), (2, .int i2), (3, .int x3)] [] (h, t) (zQv (zDc t.1) h0 t R) := by
  intro k
  induction k with
  | zero => intro x3 S h hE hf; cases hf
  | succ k ih =>
    intro x3 S h hE hf
    unfold f_X4_readClause_L81 at hf
    refine z_iload_n dX4_readClause_81 rfl ?_
    refine z_getstatic dX4_readClause_82 tS_4_69 ?_
    refine z_iload_n dX4_readClause_85 rfl ?_
    obtain ⟨b22, hf⟩ := zchk hf
    refine z_ialoadC dX4_readClause_86 (by decide) hn2 hc_1000002 b22 ?_
    by_cases c23 : (zc_1000002 i1.toNatClampNeg) ≤ x3
    · have hf := zif_t hf c23
      refine z_icmp_ge_t (tgt := 121) dX4_readClause_87 (by decide) c23 ?_
      exact zW.sub (hex x3 S _ hE hf) [0, 1, 2, 3] rfl rfl rfl rfl
    · have hf := zif_f hf c23
      refine z_icmp_ge_f (tgt := 121) dX4_readClause_87 (by decide) c23 ?_
      refine z_aload_n dX4_readClause_90 rfl ?_
      refine z_getC dX4_readClause_91 tF_4_12 hE dc_3 rfl rfl ?_
      refine z_getC dX4_readClause_94 tF_4_72 hE dc_4 rfl rfl ?_
      refine z_iload_n dX4_readClause_97 rfl ?_
      refine z_iload_n dX4_readClause_98 rfl ?_
      refine z_iload_n dX4_readClause_99 rfl ?_
      obtain ⟨r25, S24, k26, hf⟩ := zb_some hf
      refine z_callSi dX4_readClause_100 tM_4_75 (by decide) mt_10002 (Nat.le_of_ble_eq_true rfl) rfl rfl (ia_oks_le hn1 rfl) (Nat.le_of_ble_eq_true rfl) (w_X10_cellOf hn1 hn2 (d + 4) hE k26) (fun h hE => ?_)
      refine z_getstatic dX4_readClause_103 tS_4_79 ?_
      refine z_getstatic dX4_readClause_106 tS_4_82 ?_
      refine z_iload_n dX4_readClause_109 rfl ?_
      obtain ⟨b27, hf⟩ := zchk hf
      refine z_ialoadC dX4_readClause_110 (by decide) hn2 hc_1000004 b27 ?_
      refine z_iload_n dX4_readClause_111 rfl ?_
      refine z_iadd dX4_readClause_112 ?_
      obtain ⟨b28, hf⟩ := zchk hf
      refine z_ialoadC dX4_readClause_113 (by decide) hn2 hc_1000007 b28 ?_
      obtain ⟨b29, hf⟩ := zchk hf
      obtain ⟨S30, eS30, hf⟩ := zl_some hf
      refine z_iastoreL (i := r25.toNatClampNeg) dX4_readClause_114 hE dc_6 b29 rfl (fun h hE => ?_)
      rw [← eS30] at hE
      obtain ⟨y31, ey31, hf⟩ := zl_some hf
      refine z_iincY (v := 1) (y := y31) (lv' := [(3, .int y31), (0, .ref 3), (1, .int i1), (2, .int i2)]) dX4_readClause_115 rfl (by decide) (by decide) ey31 rfl ?_
      refine z_goto (tgt := 81) dX4_readClause_118 (by decide) ?_
      exact zW.sub (ih y31 S30 _ hE hf) [1, 2, 3, 0] rfl rfl rfl rfl
theorem w_X4_readClause {L : Nat} {xs : Nat → Int32} {fm : Bool} {h0 : Nat → va_E} {t : Nat × Nat × Nat} (hn1 : 64 ≤ t.1) (hn2 : t.1 ≤ 1000000) (d : Nat) {h : Nat → va_E} {S : zS} (hE : zE (zDc t.1) h0 S (h, t)) {R : Unit × zS} (hf : f_X4_readClause  S = some R) : zC (ia_P0 L xs fm) (d + 6) 4002 [.ref 3] (h, t) (zQv (zDc t.1) h0 t R) := by
  refine zC_of mt_4002 nn_4002 (Nat.le_of_ble_eq_true rfl) ?_
  refine zW_lv (lv' := [(0, .ref 3)]) rfl ?_
  unfold f_X4_readClause at hf
  refine z_ldcS dX4_readClause_0 tK_4_51 ?_
  refine z_aload_n dX4_readClause_2 rfl ?_
  refine z_getC dX4_readClause_3 tF_4_18 hE dc_3 rfl rfl ?_
  obtain ⟨r2, S1, k3, hf⟩ := zb_some hf
  refine z_callVi dX4_readClause_6 tM_4_53 mt_9004 (Nat.le_of_ble_eq_true rfl) rfl rfl (z_recv hE dc_1 rfl) rfl (ia_oks_le hn1 rfl) (Nat.le_of_ble_eq_true rfl) (w_X9_sign hn1 hn2 (d + 4) hE k3) (fun h hE => ?_)
  refine z_i2c dX4_readClause_9 ?_
  obtain ⟨r5, S4, k6, hf⟩ := zb_some hf
  refine z_callVi dX4_readClause_10 tM_4_57 mt_900000 (Nat.le_of_ble_eq_true rfl) rfl rfl (z_recvC (hp := (h, t)) (by decide) hn2 hc_1000100) rfl (ia_oks_le hn1 rfl) (Nat.le_of_ble_eq_true rfl) (w_J0_indexOf_0f7a4_1000100 hn1 hn2 (d + 1) hE k6) (fun h hE => ?_)
  refine z_istore_n (lv' := [(1, .int r5), (0, .ref 3)]) dX4_readClause_13 (by decide) rfl ?_
  refine z_iload_n dX4_readClause_14 rfl ?_
  obtain ⟨J8, eJ8, hf⟩ := zl_some hf
  have hJ8 : ∀ (u9 : Unit) (h : Nat → va_E), zE (zDc t.1) h0 S4 (h, t) → J8 u9 = some R → zW (ia_P0 L xs fm) ia_nx (d + 5) 4 false cX4_readClause 4 (none) 35 [(0, .ref 3), (1, .int r5)] [] (h, t) (zQv (zDc t.1) h0 t R) := by
    intro u9 h hE hf
    rw [eJ8] at hf
    refine z_aload_n dX4_readClause_35 rfl ?_
    refine z_getC dX4_readClause_36 tF_4_18 hE dc_3 rfl rfl ?_
    obtain ⟨r11, S10, k12, hf⟩ := zb_some hf
    refine z_callVv dX4_readClause_39 tM_4_44 mt_9005 (Nat.le_of_ble_eq_true rfl) rfl rfl (z_recv hE dc_1 rfl) rfl (ia_oks_le hn1 rfl) (Nat.le_of_ble_eq_true rfl) (w_X9_fail hn1 hn2 (d + 4) hE k12) (fun h hE => ?_)
    have e_ := Option.some.inj hf
    subst e_
    exact z_vreturn dX4_readClause_42 rfl ⟨h, rfl, rfl, hE⟩
  by_cases c7 : r5 < 0
  · have hf := zif_t hf c7
    refine z_if_lt_t (tgt := 35) dX4_readClause_15 (by decide) c7 ?_
    exact zW.sub (hJ8 () _ hE hf) [1, 0] rfl rfl rfl rfl
  · have hf := zif_f hf c7
    refine z_if_lt_f (tgt := 35) dX4_readClause_15 (by decide) c7 ?_
    refine z_aload_n dX4_readClause_18 rfl ?_
    refine z_getC dX4_readClause_19 tF_4_12 hE dc_3 rfl rfl ?_
    refine z_getC dX4_readClause_22 tF_4_40 hE dc_4 rfl rfl ?_
    refine z_iload_n dX4_readClause_25 rfl ?_
    obtain ⟨b13, hf⟩ := zchk hf
    refine z_ialoadL dX4_readClause_26 hE dc_5 b13 rfl ?_
    refine z_getstatic dX4_readClause_27 tS_4_63 ?_
    refine z_iload_n dX4_readClause_30 rfl ?_
    obtain ⟨b14, hf⟩ := zchk hf
    refine z_ialoadC dX4_readClause_31 (by decide) hn2 hc_1000001 b14 ?_
    by_cases c15 : (S4.1 5 r5.toNatClampNeg) < (zc_1000001 r5.toNatClampNeg)
    · have hf := zif_t hf c15
      refine z_icmp_lt_t (tgt := 43) dX4_readClause_32 (by decide) c15 ?_
      refine z_aload_n dX4_readClause_43 rfl ?_
      refine z_getC dX4_readClause_44 tF_4_18 hE dc_3 rfl rfl ?_
      refine z_dup dX4_readClause_47 rfl ?_
      refine z_getI dX4_readClause_48 tF_4_66 hE dc_1 rfl rfl ?_
      refine z_iconst (v := 1) dX4_readClause_51 (by decide) ?_
      refine z_iadd dX4_readClause_52 ?_
      obtain ⟨S16, eS16, hf⟩ := zl_some hf
      refine z_putI dX4_readClause_53 tF_4_66 hE dc_1 rfl rfl rfl rfl (fun h hE => ?_)
      rw [← eS16] at hE
      refine z_aload_n dX4_readClause_56 rfl ?_
      refine z_getC dX4_readClause_57 tF_4_12 hE dc_3 rfl rfl ?_
      refine z_getC dX4_readClause_60 tF_4_40 hE dc_4 rfl rfl ?_
      refine z_iload_n dX4_readClause_63 rfl ?_
      obtain ⟨b17, hf⟩ := zchk hf
      refine z_ialoadL dX4_readClause_64 hE dc_5 b17 rfl ?_
      obtain ⟨y18, ey18, hf⟩ := zl_some hf
      refine z_topi ey18 ?_
      refine z_istore_n (lv' := [(2, .int y18), (1, .int r5), (0, .ref 3)]) dX4_readClause_65 (by decide) rfl ?_
      refine z_aload_n dX4_readClause_66 rfl ?_
      refine z_getC dX4_readClause_67 tF_4_12 hE dc_3 rfl rfl ?_
      refine z_getC dX4_readClause_70 tF_4_40 hE dc_4 rfl rfl ?_
      refine z_iload_n dX4_readClause_73 rfl ?_
      refine z_dup2 dX4_readClause_74 ⟨rfl, rfl⟩ ?_
      obtain ⟨b19, hf⟩ := zchk hf
      refine z_ialoadL dX4_readClause_75 hE dc_5 b19 rfl ?_
      refine z_iconst (v := 1) dX4_readClause_76 (by decide) ?_
      refine z_iadd dX4_readClause_77 ?_
      obtain ⟨b20, hf⟩ := zchk hf
      obtain ⟨S21, eS21, hf⟩ := zl_some hf
      refine z_iastoreL (i := r5.toNatClampNeg) dX4_readClause_78 hE dc_5 b20 rfl (fun h hE => ?_)
      rw [← eS21] at hE
      refine z_iconst (v := 0) dX4_readClause_79 (by decide) ?_
      refine z_istore_n (lv' := [(3, .int 0), (2, .int y18), (1, .int r5), (0, .ref 3)]) dX4_readClause_80 (by decide) rfl ?_
      refine zW.sub (w_X4_readClause_L81 hn1 hn2 d (fun q33 S32 h hE hf => ?_) zN 0 S21 h hE hf) [3, 2, 1, 0] rfl rfl rfl rfl
      try dsimp only at hf
      refine z_aload_n dX4_readClause_121 rfl ?_
      refine z_iload_n dX4_readClause_122 rfl ?_
      refine z_iload_n dX4_readClause_123 rfl ?_
      obtain ⟨r35, S34, k36, hf⟩ := zb_some hf
      refine z_callVv dX4_readClause_124 tM_4_85 mt_4003 (Nat.le_of_ble_eq_true rfl) rfl rfl (z_recv hE dc_3 rfl) rfl (ia_oks_le hn1 rfl) (Nat.le_of_ble_eq_true rfl) (w_X4_readItems hn1 hn2 (d + 0) hE k36) (fun h hE => ?_)
      have e_ := Option.some.inj hf
      subst e_
      exact z_vreturn dX4_readClause_127 rfl ⟨h, rfl, rfl, hE⟩
    · have hf := zif_f hf c15
      refine z_icmp_lt_f (tgt := 43) dX4_readClause_32 (by decide) c15 ?_
      exact zW.sub (hJ8 () _ hE hf) [1, 0] rfl rfl rfl rfl
def f_X9_takes (v1 : Int32) (S : zS) : Option (Int32 × zS) :=
zb (f_X9_sign S) fun r2 S1 =>
if r2 = v1 then
zl (sV S1 1 2 ((S1.1 1 2) + 1)) fun S5 =>
some (1, S5)
else
some (0, S1)
theorem w_X9_takes {L : Nat} {xs : Nat → Int32} {fm : Bool} {h0 : Nat → va_E} {t : Nat × Nat × Nat} (hn1 : 64 ≤ t.1) (hn2 : t.1 ≤ 1000000) (d : Nat) {h : Nat → va_E} {S : zS} (hE : zE (zDc t.1) h0 S (h, t)) {v1 : Int32} {R : Int32 × zS} (hf : f_X9_takes v1 S = some R) : zC (ia_P0 L xs fm) (d + 2) 9008 [.ref 1, .int v1] (h, t) (zQi (zDc t.1) h0 t R) := by
  refine zC_of mt_9008 nn_9008 (Nat.le_of_ble_eq_true rfl) ?_
  refine zW_lv (lv' := [(0, .ref 1), (1, .int v1)]) rfl ?_
  unfold f_X9_takes at hf
  refine z_aload_n dX9_takes_0 rfl ?_
  obtain ⟨r2, S1, k3, hf⟩ := zb_some hf
  refine z_callVi dX9_takes_1 tM_9_25 mt_9004 (Nat.le_of_ble_eq_true rfl) rfl rfl (z_recv hE dc_1 rfl) rfl (ia_oks_le hn1 rfl) (Nat.le_of_ble_eq_true rfl) (w_X9_sign hn1 hn2 (d + 0) hE k3) (fun h hE => ?_)
  refine z_iload_n dX9_takes_4 rfl ?_
  by_cases c4 : r2 = v1
  · have hf := zif_t hf c4
    refine z_icmp_eq_t (tgt := 10) dX9_takes_5 (by decide) c4 ?_
    refine z_aload_n dX9_takes_10 rfl ?_
    refine z_dup dX9_takes_11 rfl ?_
    refine z_getI dX9_takes_12 tF_9_22 hE dc_1 rfl rfl ?_
    refine z_iconst (v := 1) dX9_takes_15 (by decide) ?_
    refine z_iadd dX9_takes_16 ?_
    obtain ⟨S5, eS5, hf⟩ := zl_some hf
    refine z_putI dX9_takes_17 tF_9_22 hE dc_1 rfl rfl rfl rfl (fun h hE => ?_)
    rw [← eS5] at hE
    refine z_iconst (v := 1) dX9_takes_20 (by decide) ?_
    have e_ := Option.some.inj hf
    subst e_
    exact z_zreturn dX9_takes_21 rfl (by decide) ⟨h, rfl, rfl, hE⟩
  · have hf := zif_f hf c4
    refine z_icmp_eq_f (tgt := 10) dX9_takes_5 (by decide) c4 ?_
    refine z_iconst (v := 0) dX9_takes_8 (by decide) ?_
    have e_ := Option.some.inj hf
    subst e_
    exact z_zreturn dX9_takes_9 rfl (by decide) ⟨h, rfl, rfl, hE⟩
def f_X9_needsEnd  (S : zS) : Option (Unit × zS) :=
zb (f_X9_sign S) fun r2 S1 =>
if r2 = 0 then
some ((), S1)
else
zb (f_X9_fail S1) fun _ S5 =>
some ((), S5)
theorem w_X9_needsEnd {L : Nat} {xs : Nat → Int32} {fm : Bool} {h0 : Nat → va_E} {t : Nat × Nat × Nat} (hn1 : 64 ≤ t.1) (hn2 : t.1 ≤ 1000000) (d : Nat) {h : Nat → va_E} {S : zS} (hE : zE (zDc t.1) h0 S (h, t)) {R : Unit × zS} (hf : f_X9_needsEnd  S = some R) : zC (ia_P0 L xs fm) (d + 2) 9009 [.ref 1] (h, t) (zQv (zDc t.1) h0 t R) := by
  refine zC_of mt_9009 nn_9009 (Nat.le_of_ble_eq_true rfl) ?_
  refine zW_lv (lv' := [(0, .ref 1)]) rfl ?_
  unfold f_X9_needsEnd at hf
  refine z_aload_n dX9_needsEnd_0 rfl ?_
  obtain ⟨r2, S1, k3, hf⟩ := zb_some hf
  refine z_callVi dX9_needsEnd_1 tM_9_25 mt_9004 (Nat.le_of_ble_eq_true rfl) rfl rfl (z_recv hE dc_1 rfl) rfl (ia_oks_le hn1 rfl) (Nat.le_of_ble_eq_true rfl) (w_X9_sign hn1 hn2 (d + 0) hE k3) (fun h hE => ?_)
  by_cases c4 : r2 = 0
  · have hf := zif_t hf c4
    refine z_if_eq_t (tgt := 11) dX9_needsEnd_4 (by decide) c4 ?_
    have e_ := Option.some.inj hf
    subst e_
    exact z_vreturn dX9_needsEnd_11 rfl ⟨h, rfl, rfl, hE⟩
  · have hf := zif_f hf c4
    refine z_if_eq_f (tgt := 11) dX9_needsEnd_4 (by decide) c4 ?_
    refine z_aload_n dX9_needsEnd_7 rfl ?_
    obtain ⟨r6, S5, k7, hf⟩ := zb_some hf
    refine z_callVv dX9_needsEnd_8 tM_9_29 mt_9005 (Nat.le_of_ble_eq_true rfl) rfl rfl (z_recv hE dc_1 rfl) rfl (ia_oks_le hn1 rfl) (Nat.le_of_ble_eq_true rfl) (w_X9_fail hn1 hn2 (d + 0) hE k7) (fun h hE => ?_)
    have e_ := Option.some.inj hf
    subst e_
    exact z_vreturn dX9_needsEnd_11 rfl ⟨h, rfl, rfl, hE⟩
def f_X4_firstWrong_L18 (ex : Int32 → Int32 → zS → Option (Int32 × zS))  : Nat → Int32 → Int32 → zS → Option (Int32 × zS)
  | 0, _, _, _ => none
  | k + 1, x1, x2, S =>
    if x1 = 0 then
    ex x1 x2 S
    else
    if 200 ≤ x2 then
    ex x1 x2 S
    else
    zb (f_X4_readClause S) fun _ S9 =>
    zb (f_X9_takes 59 S9) fun r13 S12 =>
    zl (x2 + 1) fun (y15 : Int32) =>
    f_X4_firstWrong_L18 ex k r13 y15 S12
def f_X4_firstWrong  (S : zS) : Option (Int32 × zS) :=
zb (f_X9_rewind S) fun _ S1 =>
zb (f_X10_clear S1) fun _ S4 =>
f_X4_firstWrong_L18 (fun (q17 : Int32) (q18 : Int32) (S16 : zS) =>
zb (f_X9_needsEnd S16) fun _ S19 =>
zl (fun (u24 : Unit) =>
zb (f_X9_fail S19) fun _ S25 =>
some (S25.1 1 3, S25)) fun J23 =>
if (S19.1 5 0) = 0 then
J23 ()
else
if ¬ (S19.1 5 1) = 0 then
some (S19.1 1 3, S19)
else
J23 ())  zN 1 0 S4
theorem w_X4_firstWrong_L18 {L : Nat} {xs : Nat → Int32} {fm : Bool} {h0 : Nat → va_E} {t : Nat × Nat × Nat} (hn1 : 64 ≤ t.1) (hn2 : t.1 ≤ 1000000) (d : Nat) {ex : Int32 → Int32 → zS → Option (Int32 × zS)} {R : Int32 × zS} (hex : ∀ (x1 : Int32) (x2 : Int32) (S : zS) (h : Nat → va_E), zE (zDc t.1) h0 S (h, t) → ex x1 x2 S = some R → zW (ia_P0 L xs fm) ia_nx (d + 6) 4 false cX4_firstWrong 3 (some .int) 49 [(0, .ref 3), (1, .int x1), (2, .int x2)] [] (h, t) (zQi (zDc t.1) h0 t R)) : ∀ (k : Nat) (x1 : Int32) (x2 : Int32) (S : zS) (h : Nat → va_E), zE (zDc t.1) h0 S (h, t) → f_X4_firstWrong_L18 ex  k x1 x2 S = some R → zW (ia_P0 L xs fm) ia_nx (d + 6) 4 false cX4_firstWrong 3 (some .int) 18 [(0, .ref 3), (1, .int x1), (2, .int x2)] [] (h, t) (zQi (zDc t.1) h0 t R) := by
  intro k
  induction k with
  | zero => intro x1 x2 S h hE hf; cases hf
  | succ k ih =>
    intro x1 x2 S h hE hf
    unfold f_X4_firstWrong_L18 at hf
    refine z_iload_n dX4_firstWrong_18 rfl ?_
    by_cases c7 : x1 = 0
    · have hf := zif_t hf c7
      refine z_if_eq_t (tgt := 49) dX4_firstWrong_19 (by decide) c7 ?_
      exact zW.sub (hex x1 x2 S _ hE hf) [0, 1, 2] rfl rfl rfl rfl
    · have hf := zif_f hf c7
      refine z_if_eq_f (tgt := 49) dX4_firstWrong_19 (by decide) c7 ?_
      refine z_iload_n dX4_firstWrong_22 rfl ?_
      refine z_sipush (v := 200) dX4_firstWrong_23 (by decide) ?_
      by_cases c8 : 200 ≤ x2
      · have hf := zif_t hf c8
        refine z_icmp_ge_t (tgt := 49) dX4_firstWrong_26 (by decide) c8 ?_
        exact zW.sub (hex x1 x2 S _ hE hf) [0, 1, 2] rfl rfl rfl rfl
      · have hf := zif_f hf c8
        refine z_icmp_ge_f (tgt := 49) dX4_firstWrong_26 (by decide) c8 ?_
        refine z_aload_n dX4_firstWrong_29 rfl ?_
        obtain ⟨r10, S9, k11, hf⟩ := zb_some hf
        refine z_callVv dX4_firstWrong_30 tM_4_30 mt_4002 (Nat.le_of_ble_eq_true rfl) rfl rfl (z_recv hE dc_3 rfl) rfl (ia_oks_le hn1 rfl) (Nat.le_of_ble_eq_true rfl) (w_X4_readClause hn1 hn2 (d + 0) hE k11) (fun h hE => ?_)
        refine z_aload_n dX4_firstWrong_33 rfl ?_
        refine z_getC dX4_firstWrong_34 tF_4_18 hE dc_3 rfl rfl ?_
        refine z_bipush (v := 59) dX4_firstWrong_37 (by decide) ?_
        obtain ⟨r13, S12, k14, hf⟩ := zb_some hf
        refine z_callVi dX4_firstWrong_39 tM_4_33 mt_9008 (Nat.le_of_ble_eq_true rfl) rfl rfl (z_recv hE dc_1 rfl) rfl (ia_oks_le hn1 rfl) (Nat.le_of_ble_eq_true rfl) (w_X9_takes hn1 hn2 (d + 4) hE k14) (fun h hE => ?_)
        refine z_istore_n (lv' := [(1, .int r13), (0, .ref 3), (2, .int x2)]) dX4_firstWrong_42 (by decide) rfl ?_
        obtain ⟨y15, ey15, hf⟩ := zl_some hf
        refine z_iincY (v := 1) (y := y15) (lv' := [(2, .int y15), (1, .int r13), (0, .ref 3)]) dX4_firstWrong_43 rfl (by decide) (by decide) ey15 rfl ?_
        refine z_goto (tgt := 18) dX4_firstWrong_46 (by decide) ?_
        exact zW.sub (ih r13 y15 S12 _ hE hf) [2, 1, 0] rfl rfl rfl rfl
theorem w_X4_firstWrong {L : Nat} {xs : Nat → Int32} {fm : Bool} {h0 : Nat → va_E} {t : Nat × Nat × Nat} (hn1 : 64 ≤ t.1) (hn2 : t.1 ≤ 1000000) (d : Nat) {h : Nat → va_E} {S : zS} (hE : zE (zDc t.1) h0 S (h, t)) {R : Int32 × zS} (hf : f_X4_firstWrong  S = some R) : zC (ia_P0 L xs fm) (d + 7) 4001 [.ref 3] (h, t) (zQi (zDc t.1) h0 t R) := by
  refine zC_of mt_4001 nn_4001 (Nat.le_of_ble_eq_true rfl) ?_
  refine zW_lv (lv' := [(0, .ref 3)]) rfl ?_
  unfold f_X4_firstWrong at hf
  refine z_aload_n dX4_firstWrong_0 rfl ?_
  refine z_getC dX4_firstWrong_1 tF_4_18 hE dc_3 rfl rfl ?_
  obtain ⟨r2, S1, k3, hf⟩ := zb_some hf
  refine z_callVv dX4_firstWrong_4 tM_4_22 mt_9003 (Nat.le_of_ble_eq_true rfl) rfl rfl (z_recv hE dc_1 rfl) rfl (ia_oks_le hn1 rfl) (Nat.le_of_ble_eq_true rfl) (w_X9_rewind hn1 hn2 (d + 5) hE k3) (fun h hE => ?_)
  refine z_aload_n dX4_firstWrong_7 rfl ?_
  refine z_getC dX4_firstWrong_8 tF_4_12 hE dc_3 rfl rfl ?_
  obtain ⟨r5, S4, k6, hf⟩ := zb_some hf
  refine z_callVv dX4_firstWrong_11 tM_4_27 mt_10001 (Nat.le_of_ble_eq_true rfl) rfl rfl (z_recv hE dc_4 rfl) rfl (ia_oks_le hn1 rfl) (Nat.le_of_ble_eq_true rfl) (w_X10_clear hn1 hn2 (d + 4) hE k6) (fun h hE => ?_)
  refine z_iconst (v := 1) dX4_firstWrong_14 (by decide) ?_
  refine z_istore_n (lv' := [(1, .int 1), (0, .ref 3)]) dX4_firstWrong_15 (by decide) rfl ?_
  refine z_iconst (v := 0) dX4_firstWrong_16 (by decide) ?_
  refine z_istore_n (lv' := [(2, .int 0), (1, .int 1), (0, .ref 3)]) dX4_firstWrong_17 (by decide) rfl ?_
  refine zW.sub (w_X4_firstWrong_L18 hn1 hn2 d (fun q17 q18 S16 h hE hf => ?_) zN 1 0 S4 h hE hf) [2, 1, 0] rfl rfl rfl rfl
  try dsimp only at hf
  refine z_aload_n dX4_firstWrong_49 rfl ?_
  refine z_getC dX4_firstWrong_50 tF_4_18 hE dc_3 rfl rfl ?_
  obtain ⟨r20, S19, k21, hf⟩ := zb_some hf
  refine z_callVv dX4_firstWrong_53 tM_4_37 mt_9009 (Nat.le_of_ble_eq_true rfl) rfl rfl (z_recv hE dc_1 rfl) rfl (ia_oks_le hn1 rfl) (Nat.le_of_ble_eq_true rfl) (w_X9_needsEnd hn1 hn2 (d + 4) hE k21) (fun h hE => ?_)
  refine z_aload_n dX4_firstWrong_56 rfl ?_
  refine z_getC dX4_firstWrong_57 tF_4_12 hE dc_3 rfl rfl ?_
  refine z_getC dX4_firstWrong_60 tF_4_40 hE dc_4 rfl rfl ?_
  refine z_iconst (v := 0) dX4_firstWrong_63 (by decide) ?_
  refine z_ialoadL (i := 0) dX4_firstWrong_64 hE dc_5 (by decide) (by decide) ?_
  obtain ⟨J23, eJ23, hf⟩ := zl_some hf
  have hJ23 : ∀ (u24 : Unit) (h : Nat → va_E), zE (zDc t.1) h0 S19 (h, t) → J23 u24 = some R → zW (ia_P0 L xs fm) ia_nx (d + 6) 4 false cX4_firstWrong 3 (some .int) 80 [(0, .ref 3), (1, .int q17), (2, .int q18)] [] (h, t) (zQi (zDc t.1) h0 t R) := by
    intro u24 h hE hf
    rw [eJ23] at hf
    refine z_aload_n dX4_firstWrong_80 rfl ?_
    refine z_getC dX4_firstWrong_81 tF_4_18 hE dc_3 rfl rfl ?_
    obtain ⟨r26, S25, k27, hf⟩ := zb_some hf
    refine z_callVv dX4_firstWrong_84 tM_4_44 mt_9005 (Nat.le_of_ble_eq_true rfl) rfl rfl (z_recv hE dc_1 rfl) rfl (ia_oks_le hn1 rfl) (Nat.le_of_ble_eq_true rfl) (w_X9_fail hn1 hn2 (d + 5) hE k27) (fun h hE => ?_)
    refine z_aload_n dX4_firstWrong_87 rfl ?_
    refine z_getC dX4_firstWrong_88 tF_4_18 hE dc_3 rfl rfl ?_
    refine z_getI dX4_firstWrong_91 tF_4_47 hE dc_1 rfl rfl ?_
    have e_ := Option.some.inj hf
    subst e_
    exact z_ireturn dX4_firstWrong_94 rfl ⟨h, rfl, rfl, hE⟩
  by_cases c22 : (S19.1 5 0) = 0
  · have hf := zif_t hf c22
    refine z_if_eq_t (tgt := 80) dX4_firstWrong_65 (by decide) c22 ?_
    exact zW.sub (hJ23 () _ hE hf) [0, 1, 2] rfl rfl rfl rfl
  · have hf := zif_f hf c22
    refine z_if_eq_f (tgt := 80) dX4_firstWrong_65 (by decide) c22 ?_
    refine z_aload_n dX4_firstWrong_68 rfl ?_
    refine z_getC dX4_firstWrong_69 tF_4_12 hE dc_3 rfl rfl ?_
    refine z_getC dX4_firstWrong_72 tF_4_40 hE dc_4 rfl rfl ?_
    refine z_iconst (v := 1) dX4_firstWrong_75 (by decide) ?_
    refine z_ialoadL (i := 1) dX4_firstWrong_76 hE dc_5 (by decide) (by decide) ?_
    by_cases c28 : ¬ (S19.1 5 1) = 0
    · have hf := zif_t hf c28
      refine z_if_ne_t (tgt := 87) dX4_firstWrong_77 (by decide) c28 ?_
      refine z_aload_n dX4_firstWrong_87 rfl ?_
      refine z_getC dX4_firstWrong_88 tF_4_18 hE dc_3 rfl rfl ?_
      refine z_getI dX4_firstWrong_91 tF_4_47 hE dc_1 rfl rfl ?_
      have e_ := Option.some.inj hf
      subst e_
      exact z_ireturn dX4_firstWrong_94 rfl ⟨h, rfl, rfl, hE⟩
    · have hf := zif_f hf c28
      refine z_if_ne_f (tgt := 87) dX4_firstWrong_77 (by decide) c28 ?_
      exact zW.sub (hJ23 () _ hE hf) [0, 1, 2] rfl rfl rfl rfl
def f_X9_needs (v1 : Int32) (S : zS) : Option (Unit × zS) :=
zb (f_X9_sign S) fun r2 S1 =>
if ¬ r2 = v1 then
zb (f_X9_fail S1) fun _ S5 =>
some ((), S5)
else
zl (sV S1 1 2 ((S1.1 1 2) + 1)) fun S8 =>
some ((), S8)
theorem w_X9_needs {L : Nat} {xs : Nat → Int32} {fm : Bool} {h0 : Nat → va_E} {t : Nat × Nat × Nat} (hn1 : 64 ≤ t.1) (hn2 : t.1 ≤ 1000000) (d : Nat) {h : Nat → va_E} {S : zS} (hE : zE (zDc t.1) h0 S (h, t)) {v1 : Int32} {R : Unit × zS} (hf : f_X9_needs v1 S = some R) : zC (ia_P0 L xs fm) (d + 2) 9010 [.ref 1, .int v1] (h, t) (zQv (zDc t.1) h0 t R) := by
  refine zC_of mt_9010 nn_9010 (Nat.le_of_ble_eq_true rfl) ?_
  refine zW_lv (lv' := [(0, .ref 1), (1, .int v1)]) rfl ?_
  unfold f_X9_needs at hf
  refine z_aload_n dX9_needs_0 rfl ?_
  obtain ⟨r2, S1, k3, hf⟩ := zb_some hf
  refine z_callVi dX9_needs_1 tM_9_25 mt_9004 (Nat.le_of_ble_eq_true rfl) rfl rfl (z_recv hE dc_1 rfl) rfl (ia_oks_le hn1 rfl) (Nat.le_of_ble_eq_true rfl) (w_X9_sign hn1 hn2 (d + 0) hE k3) (fun h hE => ?_)
  refine z_iload_n dX9_needs_4 rfl ?_
  by_cases c4 : ¬ r2 = v1
  · have hf := zif_t hf c4
    refine z_icmp_ne_t (tgt := 21) dX9_needs_5 (by decide) c4 ?_
    refine z_aload_n dX9_needs_21 rfl ?_
    obtain ⟨r6, S5, k7, hf⟩ := zb_some hf
    refine z_callVv dX9_needs_22 tM_9_29 mt_9005 (Nat.le_of_ble_eq_true rfl) rfl rfl (z_recv hE dc_1 rfl) rfl (ia_oks_le hn1 rfl) (Nat.le_of_ble_eq_true rfl) (w_X9_fail hn1 hn2 (d + 0) hE k7) (fun h hE => ?_)
    have e_ := Option.some.inj hf
    subst e_
    exact z_vreturn dX9_needs_25 rfl ⟨h, rfl, rfl, hE⟩
  · have hf := zif_f hf c4
    refine z_icmp_ne_f (tgt := 21) dX9_needs_5 (by decide) c4 ?_
    refine z_aload_n dX9_needs_8 rfl ?_
    refine z_dup dX9_needs_9 rfl ?_
    refine z_getI dX9_needs_10 tF_9_22 hE dc_1 rfl rfl ?_
    refine z_iconst (v := 1) dX9_needs_13 (by decide) ?_
    refine z_iadd dX9_needs_14 ?_
    obtain ⟨S8, eS8, hf⟩ := zl_some hf
    refine z_putI dX9_needs_15 tF_9_22 hE dc_1 rfl rfl rfl rfl (fun h hE => ?_)
    rw [← eS8] at hE
    refine z_goto (tgt := 25) dX9_needs_18 (by decide) ?_
    have e_ := Option.some.inj hf
    subst e_
    exact z_vreturn dX9_needs_25 rfl ⟨h, rfl, rfl, hE⟩
def f_X5_enters (v1 : Int32) (S : zS) : Option (Int32 × zS) :=
if v1 < 6 then
zl (sV S 1 2 ((S.1 1 2) + 1)) fun S2 =>
some (1, S2)
else
zb (f_X9_fail S) fun _ S3 =>
some (0, S3)
theorem w_X5_enters {L : Nat} {xs : Nat → Int32} {fm : Bool} {h0 : Nat → va_E} {t : Nat × Nat × Nat} (hn1 : 64 ≤ t.1) (hn2 : t.1 ≤ 1000000) (d : Nat) {h : Nat → va_E} {S : zS} (hE : zE (zDc t.1) h0 S (h, t)) {v1 : Int32} {R : Int32 × zS} (hf : f_X5_enters v1 S = some R) : zC (ia_P0 L xs fm) (d + 2) 5006 [.ref 7, .int v1] (h, t) (zQi (zDc t.1) h0 t R) := by
  refine zC_of mt_5006 nn_5006 (Nat.le_of_ble_eq_true rfl) ?_
  refine zW_lv (lv' := [(0, .ref 7), (1, .int v1)]) rfl ?_
  unfold f_X5_enters at hf
  refine z_iload_n dX5_enters_0 rfl ?_
  refine z_bipush (v := 6) dX5_enters_1 (by decide) ?_
  by_cases c1 : v1 < 6
  · have hf := zif_t hf c1
    refine z_icmp_lt_t (tgt := 15) dX5_enters_3 (by decide) c1 ?_
    refine z_aload_n dX5_enters_15 rfl ?_
    refine z_getC dX5_enters_16 tF_5_15 hE dc_7 rfl rfl ?_
    refine z_dup dX5_enters_19 rfl ?_
    refine z_getI dX5_enters_20 tF_5_82 hE dc_1 rfl rfl ?_
    refine z_iconst (v := 1) dX5_enters_23 (by decide) ?_
    refine z_iadd dX5_enters_24 ?_
    obtain ⟨S2, eS2, hf⟩ := zl_some hf
    refine z_putI dX5_enters_25 tF_5_82 hE dc_1 rfl rfl rfl rfl (fun h hE => ?_)
    rw [← eS2] at hE
    refine z_iconst (v := 1) dX5_enters_28 (by decide) ?_
    have e_ := Option.some.inj hf
    subst e_
    exact z_zreturn dX5_enters_29 rfl (by decide) ⟨h, rfl, rfl, hE⟩
  · have hf := zif_f hf c1
    refine z_icmp_lt_f (tgt := 15) dX5_enters_3 (by decide) c1 ?_
    refine z_aload_n dX5_enters_6 rfl ?_
    refine z_getC dX5_enters_7 tF_5_15 hE dc_7 rfl rfl ?_
    obtain ⟨r4, S3, k5, hf⟩ := zb_some hf
    refine z_callVv dX5_enters_10 tM_5_79 mt_9005 (Nat.le_of_ble_eq_true rfl) rfl rfl (z_recv hE dc_1 rfl) rfl (ia_oks_le hn1 rfl) (Nat.le_of_ble_eq_true rfl) (w_X9_fail hn1 hn2 (d + 0) hE k5) (fun h hE => ?_)
    refine z_iconst (v := 0) dX5_enters_13 (by decide) ?_
    have e_ := Option.some.inj hf
    subst e_
    exact z_zreturn dX5_enters_14 rfl (by decide) ⟨h, rfl, rfl, hE⟩
def f_X5_put (v1 : Int32) (S : zS) : Option (Unit × zS) :=
if 202 ≤ (S.1 7 2) then
some ((), S)
else
if ia_in (S.1 7 2) 202 = true then
zl (sV S 8 ((S.1 7 2).toNatClampNeg) v1) fun S3 =>
zl (sV S3 7 2 ((S3.1 7 2) + 1)) fun S4 =>
some ((), S4)
else none
theorem w_X5_put {L : Nat} {xs : Nat → Int32} {fm : Bool} {h0 : Nat → va_E} {t : Nat × Nat × Nat} (hn1 : 64 ≤ t.1) (hn2 : t.1 ≤ 1000000) (d : Nat) {h : Nat → va_E} {S : zS} (hE : zE (zDc t.1) h0 S (h, t)) {v1 : Int32} {R : Unit × zS} (hf : f_X5_put v1 S = some R) : zC (ia_P0 L xs fm) (d + 1) 5007 [.ref 7, .int v1] (h, t) (zQv (zDc t.1) h0 t R) := by
  refine zC_of mt_5007 nn_5007 (Nat.le_of_ble_eq_true rfl) ?_
  refine zW_lv (lv' := [(0, .ref 7), (1, .int v1)]) rfl ?_
  unfold f_X5_put at hf
  refine z_aload_n dX5_put_0 rfl ?_
  refine z_getI dX5_put_1 tF_5_24 hE dc_7 rfl rfl ?_
  refine z_aload_n dX5_put_4 rfl ?_
  refine z_getC dX5_put_5 tF_5_9 hE dc_7 rfl rfl ?_
  refine z_alen (v := 202) dX5_put_8 hE dc_8 (by decide) (by decide) ?_
  by_cases c1 : 202 ≤ (S.1 7 2)
  · have hf := zif_t hf c1
    refine z_icmp_ge_t (tgt := 32) dX5_put_9 (by decide) c1 ?_
    have e_ := Option.some.inj hf
    subst e_
    exact z_vreturn dX5_put_32 rfl ⟨h, rfl, rfl, hE⟩
  · have hf := zif_f hf c1
    refine z_icmp_ge_f (tgt := 32) dX5_put_9 (by decide) c1 ?_
    refine z_aload_n dX5_put_12 rfl ?_
    refine z_getC dX5_put_13 tF_5_9 hE dc_7 rfl rfl ?_
    refine z_aload_n dX5_put_16 rfl ?_
    refine z_getI dX5_put_17 tF_5_24 hE dc_7 rfl rfl ?_
    refine z_iload_n dX5_put_20 rfl ?_
    obtain ⟨b2, hf⟩ := zchk hf
    obtain ⟨S3, eS3, hf⟩ := zl_some hf
    refine z_iastoreL (i := (S.1 7 2).toNatClampNeg) dX5_put_21 hE dc_8 b2 rfl (fun h hE => ?_)
    rw [← eS3] at hE
    refine z_aload_n dX5_put_22 rfl ?_
    refine z_dup dX5_put_23 rfl ?_
    refine z_getI dX5_put_24 tF_5_24 hE dc_7 rfl rfl ?_
    refine z_iconst (v := 1) dX5_put_27 (by decide) ?_
    refine z_iadd dX5_put_28 ?_
    obtain ⟨S4, eS4, hf⟩ := zl_some hf
    refine z_putI dX5_put_29 tF_5_24 hE dc_7 rfl rfl rfl rfl (fun h hE => ?_)
    rw [← eS4] at hE
    have e_ := Option.some.inj hf
    subst e_
    exact z_vreturn dX5_put_32 rfl ⟨h, rfl, rfl, hE⟩
def f_X5_readAtom_o (hub : Int32 → zS → Option (Unit × zS)) (v1 : Int32) (S : zS) : Option (Unit × zS) :=
zb (f_X9_sign S) fun r2 S1 =>
zb (f_J0_indexOf_0f7a4_1000104 ((r2.toUInt32 % 65536).toInt32) S1) fun r5 S4 =>
zb (f_X9_isDigit r2 S4) fun r8 S7 =>
if r8 = 0 then
if r5 < 0 then
if ¬ r2 = 91 then
zb (f_X9_fail S7) fun _ S13 =>
some ((), S13)
else
zb (f_X5_enters v1 S7) fun r17 S16 =>
if r17 = 0 then
some ((), S16)
else
zb (hub (v1 + 1) S16) fun _ S20 =>
zb (f_X9_needs 93 S20) fun _ S23 =>
some ((), S23)
else
zl (sV S7 1 2 ((S7.1 1 2) + 1)) fun S26 =>
zb (f_X5_put (1000 + r5) S26) fun _ S27 =>
some ((), S27)
else
zb (f_X9_number 4 0 9999 S7) fun r31 S30 =>
zb (f_X5_put (2000 + r31) S30) fun _ S33 =>
some ((), S33)
theorem w_X5_readAtom_o {L : Nat} {xs : Nat → Int32} {fm : Bool} {h0 : Nat → va_E} {t : Nat × Nat × Nat} (hn1 : 64 ≤ t.1) (hn2 : t.1 ≤ 1000000) (d : Nat) {hub : Int32 → zS → Option (Unit × zS)} (hh : ∀ (a0 : Int32) (h : Nat → va_E) (S : zS) (R : Unit × zS), zE (zDc t.1) h0 S (h, t) → hub a0 S = some R → zC (ia_P0 L xs fm) (d + 4) 5008 [.ref 7, .int a0] (h, t) (zQv (zDc t.1) h0 t R)) {h : Nat → va_E} {S : zS} (hE : zE (zDc t.1) h0 S (h, t)) {v1 : Int32} {R : Unit × zS} (hf : f_X5_readAtom_o hub v1 S = some R) : zC (ia_P0 L xs fm) (d + 5) 5010 [.ref 7, .int v1] (h, t) (zQv (zDc t.1) h0 t R) := by
  refine zC_of mt_5010 nn_5010 (Nat.le_of_ble_eq_true rfl) ?_
  refine zW_lv (lv' := [(0, .ref 7), (1, .int v1)]) rfl ?_
  unfold f_X5_readAtom_o at hf
  refine z_aload_n dX5_readAtom_0 rfl ?_
  refine z_getC dX5_readAtom_1 tF_5_15 hE dc_7 rfl rfl ?_
  obtain ⟨r2, S1, k3, hf⟩ := zb_some hf
  refine z_callVi dX5_readAtom_4 tM_5_45 mt_9004 (Nat.le_of_ble_eq_true rfl) rfl rfl (z_recv hE dc_1 rfl) rfl (ia_oks_le hn1 rfl) (Nat.le_of_ble_eq_true rfl) (w_X9_sign hn1 hn2 (d + 3) hE k3) (fun h hE => ?_)
  refine z_istore_n (lv' := [(2, .int r2), (0, .ref 7), (1, .int v1)]) dX5_readAtom_7 (by decide) rfl ?_
  refine z_ldcS dX5_readAtom_8 tK_5_91 ?_
  refine z_iload_n dX5_readAtom_10 rfl ?_
  refine z_i2c dX5_readAtom_11 ?_
  obtain ⟨r5, S4, k6, hf⟩ := zb_some hf
  refine z_callVi dX5_readAtom_12 tM_5_93 mt_900000 (Nat.le_of_ble_eq_true rfl) rfl rfl (z_recvC (hp := (h, t)) (by decide) hn2 hc_1000104) rfl (ia_oks_le hn1 rfl) (Nat.le_of_ble_eq_true rfl) (w_J0_indexOf_0f7a4_1000104 hn1 hn2 (d + 0) hE k6) (fun h hE => ?_)
  refine z_istore_n (lv' := [(3, .int r5), (2, .int r2), (0, .ref 7), (1, .int v1)]) dX5_readAtom_15 (by decide) rfl ?_
  refine z_iload_n dX5_readAtom_16 rfl ?_
  obtain ⟨r8, S7, k9, hf⟩ := zb_some hf
  refine z_callSi dX5_readAtom_17 tM_5_99 (by decide) mt_9007 (Nat.le_of_ble_eq_true rfl) rfl rfl (ia_oks_le hn1 rfl) (Nat.le_of_ble_eq_true rfl) (w_X9_isDigit hn1 hn2 (d + 3) hE k9) (fun h hE => ?_)
  by_cases c10 : r8 = 0
  · have hf := zif_t hf c10
    refine z_if_eq_t (tgt := 46) dX5_readAtom_20 (by decide) c10 ?_
    refine z_iload_n dX5_readAtom_46 rfl ?_
    by_cases c11 : r5 < 0
    · have hf := zif_t hf c11
      refine z_if_lt_t (tgt := 75) dX5_readAtom_47 (by decide) c11 ?_
      refine z_iload_n dX5_readAtom_75 rfl ?_
      refine z_bipush (v := 91) dX5_readAtom_76 (by decide) ?_
      by_cases c12 : ¬ r2 = 91
      · have hf := zif_t hf c12
        refine z_icmp_ne_t (tgt := 108) dX5_readAtom_78 (by decide) c12 ?_
        refine z_aload_n dX5_readAtom_108 rfl ?_
        refine z_getC dX5_readAtom_109 tF_5_15 hE dc_7 rfl rfl ?_
        obtain ⟨r14, S13, k15, hf⟩ := zb_some hf
        refine z_callVv dX5_readAtom_112 tM_5_79 mt_9005 (Nat.le_of_ble_eq_true rfl) rfl rfl (z_recv hE dc_1 rfl) rfl (ia_oks_le hn1 rfl) (Nat.le_of_ble_eq_true rfl) (w_X9_fail hn1 hn2 (d + 3) hE k15) (fun h hE => ?_)
        have e_ := Option.some.inj hf
        subst e_
        exact z_vreturn dX5_readAtom_115 rfl ⟨h, rfl, rfl, hE⟩
      · have hf := zif_f hf c12
        refine z_icmp_ne_f (tgt := 108) dX5_readAtom_78 (by decide) c12 ?_
        refine z_aload_n dX5_readAtom_81 rfl ?_
        refine z_iload_n dX5_readAtom_82 rfl ?_
        obtain ⟨r17, S16, k18, hf⟩ := zb_some hf
        refine z_callVi dX5_readAtom_83 tM_5_76 mt_5006 (Nat.le_of_ble_eq_true rfl) rfl rfl (z_recv hE dc_7 rfl) rfl (ia_oks_le hn1 rfl) (Nat.le_of_ble_eq_true rfl) (w_X5_enters hn1 hn2 (d + 2) hE k18) (fun h hE => ?_)
        by_cases c19 : r17 = 0
        · have hf := zif_t hf c19
          refine z_if_eq_t (tgt := 115) dX5_readAtom_86 (by decide) c19 ?_
          have e_ := Option.some.inj hf
          subst e_
          exact z_vreturn dX5_readAtom_115 rfl ⟨h, rfl, rfl, hE⟩
        · have hf := zif_f hf c19
          refine z_if_eq_f (tgt := 115) dX5_readAtom_86 (by decide) c19 ?_
          refine z_aload_n dX5_readAtom_89 rfl ?_
          refine z_iload_n dX5_readAtom_90 rfl ?_
          refine z_iconst (v := 1) dX5_readAtom_91 (by decide) ?_
          refine z_iadd dX5_readAtom_92 ?_
          obtain ⟨r21, S20, k22, hf⟩ := zb_some hf
          refine z_callVv dX5_readAtom_93 tM_5_52 mt_5008 (Nat.le_of_ble_eq_true rfl) rfl rfl (z_recv hE dc_7 rfl) rfl (ia_oks_le hn1 rfl) (Nat.le_of_ble_eq_true rfl) ((hh (v1 + 1) h S16 _ hE k22).mono (by omega)) (fun h hE => ?_)
          refine z_aload_n dX5_readAtom_96 rfl ?_
          refine z_getC dX5_readAtom_97 tF_5_15 hE dc_7 rfl rfl ?_
          refine z_bipush (v := 93) dX5_readAtom_100 (by decide) ?_
          obtain ⟨r24, S23, k25, hf⟩ := zb_some hf
          refine z_callVv dX5_readAtom_102 tM_5_41 mt_9010 (Nat.le_of_ble_eq_true rfl) rfl rfl (z_recv hE dc_1 rfl) rfl (ia_oks_le hn1 rfl) (Nat.le_of_ble_eq_true rfl) (w_X9_needs hn1 hn2 (d + 2) hE k25) (fun h hE => ?_)
          refine z_goto (tgt := 115) dX5_readAtom_105 (by decide) ?_
          have e_ := Option.some.inj hf
          subst e_
          exact z_vreturn dX5_readAtom_115 rfl ⟨h, rfl, rfl, hE⟩
    · have hf := zif_f hf c11
      refine z_if_lt_f (tgt := 75) dX5_readAtom_47 (by decide) c11 ?_
      refine z_aload_n dX5_readAtom_50 rfl ?_
      refine z_getC dX5_readAtom_51 tF_5_15 hE dc_7 rfl rfl ?_
      refine z_dup dX5_readAtom_54 rfl ?_
      refine z_getI dX5_readAtom_55 tF_5_82 hE dc_1 rfl rfl ?_
      refine z_iconst (v := 1) dX5_readAtom_58 (by decide) ?_
      refine z_iadd dX5_readAtom_59 ?_
      obtain ⟨S26, eS26, hf⟩ := zl_some hf
      refine z_putI dX5_readAtom_60 tF_5_82 hE dc_1 rfl rfl rfl rfl (fun h hE => ?_)
      rw [← eS26] at hE
      refine z_aload_n dX5_readAtom_63 rfl ?_
      refine z_sipush (v := 1000) dX5_readAtom_64 (by decide) ?_
      refine z_iload_n dX5_readAtom_67 rfl ?_
      refine z_iadd dX5_readAtom_68 ?_
      obtain ⟨r28, S27, k29, hf⟩ := zb_some hf
      refine z_callVv dX5_readAtom_69 tM_5_67 mt_5007 (Nat.le_of_ble_eq_true rfl) rfl rfl (z_recv hE dc_7 rfl) rfl (ia_oks_le hn1 rfl) (Nat.le_of_ble_eq_true rfl) (w_X5_put hn1 hn2 (d + 3) hE k29) (fun h hE => ?_)
      refine z_goto (tgt := 115) dX5_readAtom_72 (by decide) ?_
      have e_ := Option.some.inj hf
      subst e_
      exact z_vreturn dX5_readAtom_115 rfl ⟨h, rfl, rfl, hE⟩
  · have hf := zif_f hf c10
    refine z_if_eq_f (tgt := 46) dX5_readAtom_20 (by decide) c10 ?_
    refine z_aload_n dX5_readAtom_23 rfl ?_
    refine z_sipush (v := 2000) dX5_readAtom_24 (by decide) ?_
    refine z_aload_n dX5_readAtom_27 rfl ?_
    refine z_getC dX5_readAtom_28 tF_5_15 hE dc_7 rfl rfl ?_
    refine z_iconst (v := 4) dX5_readAtom_31 (by decide) ?_
    refine z_iconst (v := 0) dX5_readAtom_32 (by decide) ?_
    refine z_sipush (v := 9999) dX5_readAtom_33 (by decide) ?_
    obtain ⟨r31, S30, k32, hf⟩ := zb_some hf
    refine z_callVi dX5_readAtom_36 tM_5_102 mt_9006 (Nat.le_of_ble_eq_true rfl) rfl rfl (z_recv hE dc_1 rfl) rfl (ia_oks_le hn1 rfl) (Nat.le_of_ble_eq_true rfl) (w_X9_number hn1 hn2 (d + 2) hE k32) (fun h hE => ?_)
    refine z_iadd dX5_readAtom_39 ?_
    obtain ⟨r34, S33, k35, hf⟩ := zb_some hf
    refine z_callVv dX5_readAtom_40 tM_5_67 mt_5007 (Nat.le_of_ble_eq_true rfl) rfl rfl (z_recv hE dc_7 rfl) rfl (ia_oks_le hn1 rfl) (Nat.le_of_ble_eq_true rfl) (w_X5_put hn1 hn2 (d + 3) hE k35) (fun h hE => ?_)
    refine z_goto (tgt := 115) dX5_readAtom_43 (by decide) ?_
    have e_ := Option.some.inj hf
    subst e_
    exact z_vreturn dX5_readAtom_115 rfl ⟨h, rfl, rfl, hE⟩
def f_X5_readTerm_o_L15 (hub : Int32 → zS → Option (Unit × zS)) (ex : Int32 → Int32 → zS → Option (Unit × zS)) (i1 : Int32) : Nat → Int32 → Int32 → zS → Option (Unit × zS)
  | 0, _, _, _ => none
  | k + 1, x2, x3, S =>
    if 200 ≤ x3 then
    ex x2 x3 S
    else
    zl (fun (u10 : Unit) =>
    zl (sV S 1 2 ((S.1 1 2) + 1)) fun S11 =>
    zb (f_X5_readAtom_o hub i1 S11) fun _ S12 =>
    zb (f_X5_put x2 S12) fun _ S15 =>
    zb (f_X9_sign S15) fun r19 S18 =>
    zl (x3 + 1) fun (y21 : Int32) =>
    f_X5_readTerm_o_L15 hub ex i1 k r19 y21 S18) fun J9 =>
    if x2 = 42 then
    J9 ()
    else
    if ¬ x2 = 47 then
    ex x2 x3 S
    else
    J9 ()
def f_X5_readTerm_o (hub : Int32 → zS → Option (Unit × zS)) (v1 : Int32) (S : zS) : Option (Unit × zS) :=
zb (f_X5_readAtom_o hub v1 S) fun _ S1 =>
zb (f_X9_sign S1) fun r5 S4 =>
f_X5_readTerm_o_L15 hub (fun (q24 : Int32) (q25 : Int32) (S23 : zS) =>
some ((), S23)) v1 zN r5 0 S4
theorem w_X5_readTerm_o_L15 {L : Nat} {xs : Nat → Int32} {fm : Bool} {h0 : Nat → va_E} {t : Nat × Nat × Nat} (hn1 : 64 ≤ t.1) (hn2 : t.1 ≤ 1000000) (d : Nat) {hub : Int32 → zS → Option (Unit × zS)} (hh : ∀ (a0 : Int32) (h : Nat → va_E) (S : zS) (R : Unit × zS), zE (zDc t.1) h0 S (h, t) → hub a0 S = some R → zC (ia_P0 L xs fm) (d + 4) 5008 [.ref 7, .int a0] (h, t) (zQv (zDc t.1) h0 t R)) {ex : Int32 → Int32 → zS → Option (Unit × zS)} {i1 : Int32} {R : Unit × zS} (hex : ∀ (x2 : Int32) (x3 : Int32) (S : zS) (h : Nat → va_E), zE (zDc t.1) h0 S (h, t) → ex x2 x3 S = some R → zW (ia_P0 L xs fm) ia_nx (d + 5) 5 false cX5_readTerm 4 (none) 71 [(0, .ref 7), (1, .int i1), (2, .int x2), (3, .int x3)] [] (h, t) (zQv (zDc t.1) h0 t R)) : ∀ (k : Nat) (x2 : Int32) (x3 : Int32) (S : zS) (h : Nat → va_E), zE (zDc t.1) h0 S (h, t) → f_X5_readTerm_o_L15 hub ex i1 k x2 x3 S = some R → zW (ia_P0 L xs fm) ia_nx (d + 5) 5 false cX5_readTerm 4 (none) 15 [(0, .ref 7), (1, .int i1), (2, .int x2), (3, .int x3)] [] (h, t) (zQv (zDc t.1) h0 t R) := by
  intro k
  induction k with
  | zero => intro x2 x3 S h hE hf; cases hf
  | succ k ih =>
    intro x2 x3 S h hE hf
    unfold f_X5_readTerm_o_L15 at hf
    refine z_iload_n dX5_readTerm_15 rfl ?_
    refine z_sipush (v := 200) dX5_readTerm_16 (by decide) ?_
    by_cases c7 : 200 ≤ x3
    · have hf := zif_t hf c7
      refine z_icmp_ge_t (tgt := 71) dX5_readTerm_19 (by decide) c7 ?_
      exact zW.sub (hex x2 x3 S _ hE hf) [0, 1, 2, 3] rfl rfl rfl rfl
    · have hf := zif_f hf c7
      refine z_icmp_ge_f (tgt := 71) dX5_readTerm_19 (by decide) c7 ?_
      refine z_iload_n dX5_readTerm_22 rfl ?_
      refine z_bipush (v := 42) dX5_readTerm_23 (by decide) ?_
      obtain ⟨J9, eJ9, hf⟩ := zl_some hf
      have hJ9 : ∀ (u10 : Unit) (h : Nat → va_E), zE (zDc t.1) h0 S (h, t) → J9 u10 = some R → zW (ia_P0 L xs fm) ia_nx (d + 5) 5 false cX5_readTerm 4 (none) 34 [(0, .ref 7), (1, .int i1), (2, .int x2), (3, .int x3)] [] (h, t) (zQv (zDc t.1) h0 t R) := by
        intro u10 h hE hf
        rw [eJ9] at hf
        refine z_aload_n dX5_readTerm_34 rfl ?_
        refine z_getC dX5_readTerm_35 tF_5_15 hE dc_7 rfl rfl ?_
        refine z_dup dX5_readTerm_38 rfl ?_
        refine z_getI dX5_readTerm_39 tF_5_82 hE dc_1 rfl rfl ?_
        refine z_iconst (v := 1) dX5_readTerm_42 (by decide) ?_
        refine z_iadd dX5_readTerm_43 ?_
        obtain ⟨S11, eS11, hf⟩ := zl_some hf
        refine z_putI dX5_readTerm_44 tF_5_82 hE dc_1 rfl rfl rfl rfl (fun h hE => ?_)
        rw [← eS11] at hE
        refine z_aload_n dX5_readTerm_47 rfl ?_
        refine z_iload_n dX5_readTerm_48 rfl ?_
        obtain ⟨r13, S12, k14, hf⟩ := zb_some hf
        refine z_callVv dX5_readTerm_49 tM_5_88 mt_5010 (Nat.le_of_ble_eq_true rfl) rfl rfl (z_recv hE dc_7 rfl) rfl (ia_oks_le hn1 rfl) (Nat.le_of_ble_eq_true rfl) (w_X5_readAtom_o hn1 hn2 (d + 0) (fun a0 h S R hE hk => (hh a0 h S R hE hk).mono (by omega)) hE k14) (fun h hE => ?_)
        refine z_aload_n dX5_readTerm_52 rfl ?_
        refine z_iload_n dX5_readTerm_53 rfl ?_
        obtain ⟨r16, S15, k17, hf⟩ := zb_some hf
        refine z_callVv dX5_readTerm_54 tM_5_67 mt_5007 (Nat.le_of_ble_eq_true rfl) rfl rfl (z_recv hE dc_7 rfl) rfl (ia_oks_le hn1 rfl) (Nat.le_of_ble_eq_true rfl) (w_X5_put hn1 hn2 (d + 4) hE k17) (fun h hE => ?_)
        refine z_aload_n dX5_readTerm_57 rfl ?_
        refine z_getC dX5_readTerm_58 tF_5_15 hE dc_7 rfl rfl ?_
        obtain ⟨r19, S18, k20, hf⟩ := zb_some hf
        refine z_callVi dX5_readTerm_61 tM_5_45 mt_9004 (Nat.le_of_ble_eq_true rfl) rfl rfl (z_recv hE dc_1 rfl) rfl (ia_oks_le hn1 rfl) (Nat.le_of_ble_eq_true rfl) (w_X9_sign hn1 hn2 (d + 4) hE k20) (fun h hE => ?_)
        refine z_istore_n (lv' := [(2, .int r19), (0, .ref 7), (1, .int i1), (3, .int x3)]) dX5_readTerm_64 (by decide) rfl ?_
        obtain ⟨y21, ey21, hf⟩ := zl_some hf
        refine z_iincY (v := 1) (y := y21) (lv' := [(3, .int y21), (2, .int r19), (0, .ref 7), (1, .int i1)]) dX5_readTerm_65 rfl (by decide) (by decide) ey21 rfl ?_
        refine z_goto (tgt := 15) dX5_readTerm_68 (by decide) ?_
        exact zW.sub (ih r19 y21 S18 _ hE hf) [2, 3, 1, 0] rfl rfl rfl rfl
      by_cases c8 : x2 = 42
      · have hf := zif_t hf c8
        refine z_icmp_eq_t (tgt := 34) dX5_readTerm_25 (by decide) c8 ?_
        exact zW.sub (hJ9 () _ hE hf) [0, 1, 2, 3] rfl rfl rfl rfl
      · have hf := zif_f hf c8
        refine z_icmp_eq_f (tgt := 34) dX5_readTerm_25 (by decide) c8 ?_
        refine z_iload_n dX5_readTerm_28 rfl ?_
        refine z_bipush (v := 47) dX5_readTerm_29 (by decide) ?_
        by_cases c22 : ¬ x2 = 47
        · have hf := zif_t hf c22
          refine z_icmp_ne_t (tgt := 71) dX5_readTerm_31 (by decide) c22 ?_
          exact zW.sub (hex x2 x3 S _ hE hf) [0, 1, 2, 3] rfl rfl rfl rfl
        · have hf := zif_f hf c22
          refine z_icmp_ne_f (tgt := 71) dX5_readTerm_31 (by decide) c22 ?_
          exact zW.sub (hJ9 () _ hE hf) [0, 1, 2, 3] rfl rfl rfl rfl
theorem w_X5_readTerm_o {L : Nat} {xs : Nat → Int32} {fm : Bool} {h0 : Nat → va_E} {t : Nat × Nat × Nat} (hn1 : 64 ≤ t.1) (hn2 : t.1 ≤ 1000000) (d : Nat) {hub : Int32 → zS → Option (Unit × zS)} (hh : ∀ (a0 : Int32) (h : Nat → va_E) (S : zS) (R : Unit × zS), zE (zDc t.1) h0 S (h, t) → hub a0 S = some R → zC (ia_P0 L xs fm) (d + 4) 5008 [.ref 7, .int a0] (h, t) (zQv (zDc t.1) h0 t R)) {h : Nat → va_E} {S : zS} (hE : zE (zDc t.1) h0 S (h, t)) {v1 : Int32} {R : Unit × zS} (hf : f_X5_readTerm_o hub v1 S = some R) : zC (ia_P0 L xs fm) (d + 6) 5009 [.ref 7, .int v1] (h, t) (zQv (zDc t.1) h0 t R) := by
  refine zC_of mt_5009 nn_5009 (Nat.le_of_ble_eq_true rfl) ?_
  refine zW_lv (lv' := [(0, .ref 7), (1, .int v1)]) rfl ?_
  unfold f_X5_readTerm_o at hf
  refine z_aload_n dX5_readTerm_0 rfl ?_
  refine z_iload_n dX5_readTerm_1 rfl ?_
  obtain ⟨r2, S1, k3, hf⟩ := zb_some hf
  refine z_callVv dX5_readTerm_2 tM_5_88 mt_5010 (Nat.le_of_ble_eq_true rfl) rfl rfl (z_recv hE dc_7 rfl) rfl (ia_oks_le hn1 rfl) (Nat.le_of_ble_eq_true rfl) (w_X5_readAtom_o hn1 hn2 (d + 0) (fun a0 h S R hE hk => (hh a0 h S R hE hk).mono (by omega)) hE k3) (fun h hE => ?_)
  refine z_aload_n dX5_readTerm_5 rfl ?_
  refine z_getC dX5_readTerm_6 tF_5_15 hE dc_7 rfl rfl ?_
  obtain ⟨r5, S4, k6, hf⟩ := zb_some hf
  refine z_callVi dX5_readTerm_9 tM_5_45 mt_9004 (Nat.le_of_ble_eq_true rfl) rfl rfl (z_recv hE dc_1 rfl) rfl (ia_oks_le hn1 rfl) (Nat.le_of_ble_eq_true rfl) (w_X9_sign hn1 hn2 (d + 4) hE k6) (fun h hE => ?_)
  refine z_istore_n (lv' := [(2, .int r5), (0, .ref 7), (1, .int v1)]) dX5_readTerm_12 (by decide) rfl ?_
  refine z_iconst (v := 0) dX5_readTerm_13 (by decide) ?_
  refine z_istore_n (lv' := [(3, .int 0), (2, .int r5), (0, .ref 7), (1, .int v1)]) dX5_readTerm_14 (by decide) rfl ?_
  refine zW.sub (w_X5_readTerm_o_L15 hn1 hn2 d hh (fun q24 q25 S23 h hE hf => ?_) zN r5 0 S4 h hE hf) [2, 3, 1, 0] rfl rfl rfl rfl
  try dsimp only at hf
  have e_ := Option.some.inj hf
  subst e_
  exact z_vreturn dX5_readTerm_71 rfl ⟨h, rfl, rfl, hE⟩
def f_X5_readSum_o_L15 (hub : Int32 → zS → Option (Unit × zS)) (ex : Int32 → Int32 → zS → Option (Unit × zS)) (i1 : Int32) : Nat → Int32 → Int32 → zS → Option (Unit × zS)
  | 0, _, _, _ => none
  | k + 1, x2, x3, S =>
    if 200 ≤ x3 then
    ex x2 x3 S
    else
    zl (fun (u10 : Unit) =>
    zl (sV S 1 2 ((S.1 1 2) + 1)) fun S11 =>
    zb (f_X5_readTerm_o hub i1 S11) fun _ S12 =>
    zb (f_X5_put x2 S12) fun _ S15 =>
    zb (f_X9_sign S15) fun r19 S18 =>
    zl (x3 + 1) fun (y21 : Int32) =>
    f_X5_readSum_o_L15 hub ex i1 k r19 y21 S18) fun J9 =>
    if x2 = 43 then
    J9 ()
    else
    if ¬ x2 = 45 then
    ex x2 x3 S
    else
    J9 ()
def f_X5_readSum_o (hub : Int32 → zS → Option (Unit × zS)) (v1 : Int32) (S : zS) : Option (Unit × zS) :=
zb (f_X5_readTerm_o hub v1 S) fun _ S1 =>
zb (f_X9_sign S1) fun r5 S4 =>
f_X5_readSum_o_L15 hub (fun (q24 : Int32) (q25 : Int32) (S23 : zS) =>
some ((), S23)) v1 zN r5 0 S4
theorem w_X5_readSum_o_L15 {L : Nat} {xs : Nat → Int32} {fm : Bool} {h0 : Nat → va_E} {t : Nat × Nat × Nat} (hn1 : 64 ≤ t.1) (hn2 : t.1 ≤ 1000000) (d : Nat) {hub : Int32 → zS → Option (Unit × zS)} (hh : ∀ (a0 : Int32) (h : Nat → va_E) (S : zS) (R : Unit × zS), zE (zDc t.1) h0 S (h, t) → hub a0 S = some R → zC (ia_P0 L xs fm) (d + 4) 5008 [.ref 7, .int a0] (h, t) (zQv (zDc t.1) h0 t R)) {ex : Int32 → Int32 → zS → Option (Unit × zS)} {i1 : Int32} {R : Unit × zS} (hex : ∀ (x2 : Int32) (x3 : Int32) (S : zS) (h : Nat → va_E), zE (zDc t.1) h0 S (h, t) → ex x2 x3 S = some R → zW (ia_P0 L xs fm) ia_nx (d + 6) 5 false cX5_readSum 4 (none) 71 [(0, .ref 7), (1, .int i1), (2, .int x2), (3, .int x3)] [] (h, t) (zQv (zDc t.1) h0 t R)) : ∀ (k : Nat) (x2 : Int32) (x3 : Int32) (S : zS) (h : Nat → va_E), zE (zDc t.1) h0 S (h, t) → f_X5_readSum_o_L15 hub ex i1 k x2 x3 S = some R → zW (ia_P0 L xs fm) ia_nx (d + 6) 5 false cX5_readSum 4 (none) 15 [(0, .ref 7), (1, .int i1), (2, .int x2), (3, .int x3)] [] (h, t) (zQv (zDc t.1) h0 t R) := by
  intro k
  induction k with
  | zero => intro x2 x3 S h hE hf; cases hf
  | succ k ih =>
    intro x2 x3 S h hE hf
    unfold f_X5_readSum_o_L15 at hf
    refine z_iload_n dX5_readSum_15 rfl ?_
    refine z_sipush (v := 200) dX5_readSum_16 (by decide) ?_
    by_cases c7 : 200 ≤ x3
    · have hf := zif_t hf c7
      refine z_icmp_ge_t (tgt := 71) dX5_readSum_19 (by decide) c7 ?_
      exact zW.sub (hex x2 x3 S _ hE hf) [0, 1, 2, 3] rfl rfl rfl rfl
    · have hf := zif_f hf c7
      refine z_icmp_ge_f (tgt := 71) dX5_readSum_19 (by decide) c7 ?_
      refine z_iload_n dX5_readSum_22 rfl ?_
      refine z_bipush (v := 43) dX5_readSum_23 (by decide) ?_
      obtain ⟨J9, eJ9, hf⟩ := zl_some hf
      have hJ9 : ∀ (u10 : Unit) (h : Nat → va_E), zE (zDc t.1) h0 S (h, t) → J9 u10 = some R → zW (ia_P0 L xs fm) ia_nx (d + 6) 5 false cX5_readSum 4 (none) 34 [(0, .ref 7), (1, .int i1), (2, .int x2), (3, .int x3)] [] (h, t) (zQv (zDc t.1) h0 t R) := by
        intro u10 h hE hf
        rw [eJ9] at hf
        refine z_aload_n dX5_readSum_34 rfl ?_
        refine z_getC dX5_readSum_35 tF_5_15 hE dc_7 rfl rfl ?_
        refine z_dup dX5_readSum_38 rfl ?_
        refine z_getI dX5_readSum_39 tF_5_82 hE dc_1 rfl rfl ?_
        refine z_iconst (v := 1) dX5_readSum_42 (by decide) ?_
        refine z_iadd dX5_readSum_43 ?_
        obtain ⟨S11, eS11, hf⟩ := zl_some hf
        refine z_putI dX5_readSum_44 tF_5_82 hE dc_1 rfl rfl rfl rfl (fun h hE => ?_)
        rw [← eS11] at hE
        refine z_aload_n dX5_readSum_47 rfl ?_
        refine z_iload_n dX5_readSum_48 rfl ?_
        obtain ⟨r13, S12, k14, hf⟩ := zb_some hf
        refine z_callVv dX5_readSum_49 tM_5_85 mt_5009 (Nat.le_of_ble_eq_true rfl) rfl rfl (z_recv hE dc_7 rfl) rfl (ia_oks_le hn1 rfl) (Nat.le_of_ble_eq_true rfl) (w_X5_readTerm_o hn1 hn2 (d + 0) (fun a0 h S R hE hk => (hh a0 h S R hE hk).mono (by omega)) hE k14) (fun h hE => ?_)
        refine z_aload_n dX5_readSum_52 rfl ?_
        refine z_iload_n dX5_readSum_53 rfl ?_
        obtain ⟨r16, S15, k17, hf⟩ := zb_some hf
        refine z_callVv dX5_readSum_54 tM_5_67 mt_5007 (Nat.le_of_ble_eq_true rfl) rfl rfl (z_recv hE dc_7 rfl) rfl (ia_oks_le hn1 rfl) (Nat.le_of_ble_eq_true rfl) (w_X5_put hn1 hn2 (d + 5) hE k17) (fun h hE => ?_)
        refine z_aload_n dX5_readSum_57 rfl ?_
        refine z_getC dX5_readSum_58 tF_5_15 hE dc_7 rfl rfl ?_
        obtain ⟨r19, S18, k20, hf⟩ := zb_some hf
        refine z_callVi dX5_readSum_61 tM_5_45 mt_9004 (Nat.le_of_ble_eq_true rfl) rfl rfl (z_recv hE dc_1 rfl) rfl (ia_oks_le hn1 rfl) (Nat.le_of_ble_eq_true rfl) (w_X9_sign hn1 hn2 (d + 5) hE k20) (fun h hE => ?_)
        refine z_istore_n (lv' := [(2, .int r19), (0, .ref 7), (1, .int i1), (3, .int x3)]) dX5_readSum_64 (by decide) rfl ?_
        obtain ⟨y21, ey21, hf⟩ := zl_some hf
        refine z_iincY (v := 1) (y := y21) (lv' := [(3, .int y21), (2, .int r19), (0, .ref 7), (1, .int i1)]) dX5_readSum_65 rfl (by decide) (by decide) ey21 rfl ?_
        refine z_goto (tgt := 15) dX5_readSum_68 (by decide) ?_
        exact zW.sub (ih r19 y21 S18 _ hE hf) [2, 3, 1, 0] rfl rfl rfl rfl
      by_cases c8 : x2 = 43
      · have hf := zif_t hf c8
        refine z_icmp_eq_t (tgt := 34) dX5_readSum_25 (by decide) c8 ?_
        exact zW.sub (hJ9 () _ hE hf) [0, 1, 2, 3] rfl rfl rfl rfl
      · have hf := zif_f hf c8
        refine z_icmp_eq_f (tgt := 34) dX5_readSum_25 (by decide) c8 ?_
        refine z_iload_n dX5_readSum_28 rfl ?_
        refine z_bipush (v := 45) dX5_readSum_29 (by decide) ?_
        by_cases c22 : ¬ x2 = 45
        · have hf := zif_t hf c22
          refine z_icmp_ne_t (tgt := 71) dX5_readSum_31 (by decide) c22 ?_
          exact zW.sub (hex x2 x3 S _ hE hf) [0, 1, 2, 3] rfl rfl rfl rfl
        · have hf := zif_f hf c22
          refine z_icmp_ne_f (tgt := 71) dX5_readSum_31 (by decide) c22 ?_
          exact zW.sub (hJ9 () _ hE hf) [0, 1, 2, 3] rfl rfl rfl rfl
theorem w_X5_readSum_o {L : Nat} {xs : Nat → Int32} {fm : Bool} {h0 : Nat → va_E} {t : Nat × Nat × Nat} (hn1 : 64 ≤ t.1) (hn2 : t.1 ≤ 1000000) (d : Nat) {hub : Int32 → zS → Option (Unit × zS)} (hh : ∀ (a0 : Int32) (h : Nat → va_E) (S : zS) (R : Unit × zS), zE (zDc t.1) h0 S (h, t) → hub a0 S = some R → zC (ia_P0 L xs fm) (d + 4) 5008 [.ref 7, .int a0] (h, t) (zQv (zDc t.1) h0 t R)) {h : Nat → va_E} {S : zS} (hE : zE (zDc t.1) h0 S (h, t)) {v1 : Int32} {R : Unit × zS} (hf : f_X5_readSum_o hub v1 S = some R) : zC (ia_P0 L xs fm) (d + 7) 5008 [.ref 7, .int v1] (h, t) (zQv (zDc t.1) h0 t R) := by
  refine zC_of mt_5008 nn_5008 (Nat.le_of_ble_eq_true rfl) ?_
  refine zW_lv (lv' := [(0, .ref 7), (1, .int v1)]) rfl ?_
  unfold f_X5_readSum_o at hf
  refine z_aload_n dX5_readSum_0 rfl ?_
  refine z_iload_n dX5_readSum_1 rfl ?_
  obtain ⟨r2, S1, k3, hf⟩ := zb_some hf
  refine z_callVv dX5_readSum_2 tM_5_85 mt_5009 (Nat.le_of_ble_eq_true rfl) rfl rfl (z_recv hE dc_7 rfl) rfl (ia_oks_le hn1 rfl) (Nat.le_of_ble_eq_true rfl) (w_X5_readTerm_o hn1 hn2 (d + 0) (fun a0 h S R hE hk => (hh a0 h S R hE hk).mono (by omega)) hE k3) (fun h hE => ?_)
  refine z_aload_n dX5_readSum_5 rfl ?_
  refine z_getC dX5_readSum_6 tF_5_15 hE dc_7 rfl rfl ?_
  obtain ⟨r5, S4, k6, hf⟩ := zb_some hf
  refine z_callVi dX5_readSum_9 tM_5_45 mt_9004 (Nat.le_of_ble_eq_true rfl) rfl rfl (z_recv hE dc_1 rfl) rfl (ia_oks_le hn1 rfl) (Nat.le_of_ble_eq_true rfl) (w_X9_sign hn1 hn2 (d + 5) hE k6) (fun h hE => ?_)
  refine z_istore_n (lv' := [(2, .int r5), (0, .ref 7), (1, .int v1)]) dX5_readSum_12 (by decide) rfl ?_
  refine z_iconst (v := 0) dX5_readSum_13 (by decide) ?_
  refine z_istore_n (lv' := [(3, .int 0), (2, .int r5), (0, .ref 7), (1, .int v1)]) dX5_readSum_14 (by decide) rfl ?_
  refine zW.sub (w_X5_readSum_o_L15 hn1 hn2 d hh (fun q24 q25 S23 h hE hf => ?_) zN r5 0 S4 h hE hf) [2, 3, 1, 0] rfl rfl rfl rfl
  try dsimp only at hf
  have e_ := Option.some.inj hf
  subst e_
  exact z_vreturn dX5_readSum_71 rfl ⟨h, rfl, rfl, hE⟩
def f_X5_readSum_g : Nat → Int32 → zS → Option (Unit × zS)
  | 0 => fun _ _ => none
  | g + 1 => f_X5_readSum_o (f_X5_readSum_g g)
theorem w_X5_readSum_g {L : Nat} {xs : Nat → Int32} {fm : Bool} {h0 : Nat → va_E} {t : Nat × Nat × Nat} (hn1 : 64 ≤ t.1) (hn2 : t.1 ≤ 1000000) (d : Nat) : ∀ g : Nat, ∀ (a0 : Int32) (h : Nat → va_E) (S : zS) (R : Unit × zS), zE (zDc t.1) h0 S (h, t) → f_X5_readSum_g g a0 S = some R → zC (ia_P0 L xs fm) (d + 3 * g + 4) 5008 [.ref 7, .int a0] (h, t) (zQv (zDc t.1) h0 t R) := by
  intro g
  induction g with
  | zero => intro a0 h S R hE hf; cases hf
  | succ g ih => intro a0 h S R hE hf; exact (w_X5_readSum_o hn1 hn2 (d + 3 * g) ih hE hf).mono (by omega)
def f_X5_readSum (a0 : Int32) (S : zS) : Option (Unit × zS) := f_X5_readSum_o (f_X5_readSum_g 16) a0 S
theorem w_X5_readSum {L : Nat} {xs : Nat → Int32} {fm : Bool} {h0 : Nat → va_E} {t : Nat × Nat × Nat} (hn1 : 64 ≤ t.1) (hn2 : t.1 ≤ 1000000) (d : Nat) {h : Nat → va_E} {S : zS} (hE : zE (zDc t.1) h0 S (h, t)) {a0 : Int32} {R : Unit × zS} (hf : f_X5_readSum a0 S = some R) : zC (ia_P0 L xs fm) (d + 55) 5008 [.ref 7, .int a0] (h, t) (zQv (zDc t.1) h0 t R) :=
  (w_X5_readSum_o hn1 hn2 (d + 3 * 16) (w_X5_readSum_g hn1 hn2 d 16) hE hf).mono (by omega)
def f_X5_isRelation (v0 : Int32) (S : zS) : Option (Int32 × zS) :=
zl (fun (u3 : Unit) =>
some (1, S)) fun J2 =>
if v0 = 61 then
J2 ()
else
if v0 = 60 then
J2 ()
else
if ¬ v0 = 62 then
some (0, S)
else
J2 ()
theorem w_X5_isRelation {L : Nat} {xs : Nat → Int32} {fm : Bool} {h0 : Nat → va_E} {t : Nat × Nat × Nat} (hn1 : 64 ≤ t.1) (hn2 : t.1 ≤ 1000000) (d : Nat) {h : Nat → va_E} {S : zS} (hE : zE (zDc t.1) h0 S (h, t)) {v0 : Int32} {R : Int32 × zS} (hf : f_X5_isRelation v0 S = some R) : zC (ia_P0 L xs fm) (d + 1) 5012 [.int v0] (h, t) (zQi (zDc t.1) h0 t R) := by
  refine zC_of mt_5012 nn_5012 (Nat.le_of_ble_eq_true rfl) ?_
  refine zW_lv (lv' := [(0, .int v0)]) rfl ?_
  unfold f_X5_isRelation at hf
  refine z_iload_n dX5_isRelation_0 rfl ?_
  refine z_bipush (v := 61) dX5_isRelation_1 (by decide) ?_
  obtain ⟨J2, eJ2, hf⟩ := zl_some hf
  have hJ2 : ∀ (u3 : Unit) (h : Nat → va_E), zE (zDc t.1) h0 S (h, t) → J2 u3 = some R → zW (ia_P0 L xs fm) ia_nx (d + 0) 5 false cX5_isRelation 1 (some .boolean) 18 [(0, .int v0)] [] (h, t) (zQi (zDc t.1) h0 t R) := by
    intro u3 h hE hf
    rw [eJ2] at hf
    refine z_iconst (v := 1) dX5_isRelation_18 (by decide) ?_
    refine z_goto (tgt := 23) dX5_isRelation_19 (by decide) ?_
    have e_ := Option.some.inj hf
    subst e_
    exact z_zreturn dX5_isRelation_23 rfl (by decide) ⟨h, rfl, rfl, hE⟩
  by_cases c1 : v0 = 61
  · have hf := zif_t hf c1
    refine z_icmp_eq_t (tgt := 18) dX5_isRelation_3 (by decide) c1 ?_
    exact zW.sub (hJ2 () _ hE hf) [0] rfl rfl rfl rfl
  · have hf := zif_f hf c1
    refine z_icmp_eq_f (tgt := 18) dX5_isRelation_3 (by decide) c1 ?_
    refine z_iload_n dX5_isRelation_6 rfl ?_
    refine z_bipush (v := 60) dX5_isRelation_7 (by decide) ?_
    by_cases c4 : v0 = 60
    · have hf := zif_t hf c4
      refine z_icmp_eq_t (tgt := 18) dX5_isRelation_9 (by decide) c4 ?_
      exact zW.sub (hJ2 () _ hE hf) [0] rfl rfl rfl rfl
    · have hf := zif_f hf c4
      refine z_icmp_eq_f (tgt := 18) dX5_isRelation_9 (by decide) c4 ?_
      refine z_iload_n dX5_isRelation_12 rfl ?_
      refine z_bipush (v := 62) dX5_isRelation_13 (by decide) ?_
      by_cases c5 : ¬ v0 = 62
      · have hf := zif_t hf c5
        refine z_icmp_ne_t (tgt := 22) dX5_isRelation_15 (by decide) c5 ?_
        refine z_iconst (v := 0) dX5_isRelation_22 (by decide) ?_
        have e_ := Option.some.inj hf
        subst e_
        exact z_zreturn dX5_isRelation_23 rfl (by decide) ⟨h, rfl, rfl, hE⟩
      · have hf := zif_f hf c5
        refine z_icmp_ne_f (tgt := 22) dX5_isRelation_15 (by decide) c5 ?_
        exact zW.sub (hJ2 () _ hE hf) [0] rfl rfl rfl rfl
def f_X5_readRelation (v1 : Int32) (S : zS) : Option (Unit × zS) :=
zb (f_X9_sign S) fun r2 S1 =>
zb (f_X5_isRelation r2 S1) fun r5 S4 =>
if ¬ r5 = 0 then
zl (sV S4 1 2 ((S4.1 1 2) + 1)) fun S8 =>
zb (f_X5_readSum v1 S8) fun _ S9 =>
zb (f_X5_put r2 S9) fun _ S12 =>
some ((), S12)
else
zb (f_X9_fail S4) fun _ S15 =>
some ((), S15)
theorem w_X5_readRelation {L : Nat} {xs : Nat → Int32} {fm : Bool} {h0 : Nat → va_E} {t : Nat × Nat × Nat} (hn1 : 64 ≤ t.1) (hn2 : t.1 ≤ 1000000) (d : Nat) {h : Nat → va_E} {S : zS} (hE : zE (zDc t.1) h0 S (h, t)) {v1 : Int32} {R : Unit × zS} (hf : f_X5_readRelation v1 S = some R) : zC (ia_P0 L xs fm) (d + 56) 5011 [.ref 7, .int v1] (h, t) (zQv (zDc t.1) h0 t R) := by
  refine zC_of mt_5011 nn_5011 (Nat.le_of_ble_eq_true rfl) ?_
  refine zW_lv (lv' := [(0, .ref 7), (1, .int v1)]) rfl ?_
  unfold f_X5_readRelation at hf
  refine z_aload_n dX5_readRelation_0 rfl ?_
  refine z_getC dX5_readRelation_1 tF_5_15 hE dc_7 rfl rfl ?_
  obtain ⟨r2, S1, k3, hf⟩ := zb_some hf
  refine z_callVi dX5_readRelation_4 tM_5_45 mt_9004 (Nat.le_of_ble_eq_true rfl) rfl rfl (z_recv hE dc_1 rfl) rfl (ia_oks_le hn1 rfl) (Nat.le_of_ble_eq_true rfl) (w_X9_sign hn1 hn2 (d + 54) hE k3) (fun h hE => ?_)
  refine z_istore_n (lv' := [(2, .int r2), (0, .ref 7), (1, .int v1)]) dX5_readRelation_7 (by decide) rfl ?_
  refine z_iload_n dX5_readRelation_8 rfl ?_
  obtain ⟨r5, S4, k6, hf⟩ := zb_some hf
  refine z_callSi dX5_readRelation_9 tM_5_55 (by decide) mt_5012 (Nat.le_of_ble_eq_true rfl) rfl rfl (ia_oks_le hn1 rfl) (Nat.le_of_ble_eq_true rfl) (w_X5_isRelation hn1 hn2 (d + 54) hE k6) (fun h hE => ?_)
  by_cases c7 : ¬ r5 = 0
  · have hf := zif_t hf c7
    refine z_if_ne_t (tgt := 23) dX5_readRelation_12 (by decide) c7 ?_
    refine z_aload_n dX5_readRelation_23 rfl ?_
    refine z_getC dX5_readRelation_24 tF_5_15 hE dc_7 rfl rfl ?_
    refine z_dup dX5_readRelation_27 rfl ?_
    refine z_getI dX5_readRelation_28 tF_5_82 hE dc_1 rfl rfl ?_
    refine z_iconst (v := 1) dX5_readRelation_31 (by decide) ?_
    refine z_iadd dX5_readRelation_32 ?_
    obtain ⟨S8, eS8, hf⟩ := zl_some hf
    refine z_putI dX5_readRelation_33 tF_5_82 hE dc_1 rfl rfl rfl rfl (fun h hE => ?_)
    rw [← eS8] at hE
    refine z_aload_n dX5_readRelation_36 rfl ?_
    refine z_iload_n dX5_readRelation_37 rfl ?_
    obtain ⟨r10, S9, k11, hf⟩ := zb_some hf
    refine z_callVv dX5_readRelation_38 tM_5_52 mt_5008 (Nat.le_of_ble_eq_true rfl) rfl rfl (z_recv hE dc_7 rfl) rfl (ia_oks_le hn1 rfl) (Nat.le_of_ble_eq_true rfl) (w_X5_readSum hn1 hn2 (d + 0) hE k11) (fun h hE => ?_)
    refine z_aload_n dX5_readRelation_41 rfl ?_
    refine z_iload_n dX5_readRelation_42 rfl ?_
    obtain ⟨r13, S12, k14, hf⟩ := zb_some hf
    refine z_callVv dX5_readRelation_43 tM_5_67 mt_5007 (Nat.le_of_ble_eq_true rfl) rfl rfl (z_recv hE dc_7 rfl) rfl (ia_oks_le hn1 rfl) (Nat.le_of_ble_eq_true rfl) (w_X5_put hn1 hn2 (d + 54) hE k14) (fun h hE => ?_)
    have e_ := Option.some.inj hf
    subst e_
    exact z_vreturn dX5_readRelation_46 rfl ⟨h, rfl, rfl, hE⟩
  · have hf := zif_f hf c7
    refine z_if_ne_f (tgt := 23) dX5_readRelation_12 (by decide) c7 ?_
    refine z_aload_n dX5_readRelation_15 rfl ?_
    refine z_getC dX5_readRelation_16 tF_5_15 hE dc_7 rfl rfl ?_
    obtain ⟨r16, S15, k17, hf⟩ := zb_some hf
    refine z_callVv dX5_readRelation_19 tM_5_79 mt_9005 (Nat.le_of_ble_eq_true rfl) rfl rfl (z_recv hE dc_1 rfl) rfl (ia_oks_le hn1 rfl) (Nat.le_of_ble_eq_true rfl) (w_X9_fail hn1 hn2 (d + 54) hE k17) (fun h hE => ?_)
    have e_ := Option.some.inj hf
    subst e_
    exact z_vreturn dX5_readRelation_22 rfl ⟨h, rfl, rfl, hE⟩
def f_X5_readMoreUnits_o_L2 (hub : Int32 → zS → Option (Unit × zS)) (ex : Int32 → zS → Option (Unit × zS)) (i1 : Int32) : Nat → Int32 → zS → Option (Unit × zS)
  | 0, _, _ => none
  | k + 1, x2, S =>
    if 200 ≤ x2 then
    ex x2 S
    else
    zb (f_X9_takes 38 S) fun r3 S2 =>
    if r3 = 0 then
    ex x2 S2
    else
    zb (hub i1 S2) fun _ S6 =>
    zb (f_X5_put 38 S6) fun _ S9 =>
    zl (x2 + 1) fun (y12 : Int32) =>
    f_X5_readMoreUnits_o_L2 hub ex i1 k y12 S9
def f_X5_readMoreUnits_o (hub : Int32 → zS → Option (Unit × zS)) (v1 : Int32) (S : zS) : Option (Unit × zS) :=
f_X5_readMoreUnits_o_L2 hub (fun (q14 : Int32) (S13 : zS) =>
some ((), S13)) v1 zN 0 S
theorem w_X5_readMoreUnits_o_L2 {L : Nat} {xs : Nat → Int32} {fm : Bool} {h0 : Nat → va_E} {t : Nat × Nat × Nat} (hn1 : 64 ≤ t.1) (hn2 : t.1 ≤ 1000000) (d : Nat) {hub : Int32 → zS → Option (Unit × zS)} (hh : ∀ (a0 : Int32) (h : Nat → va_E) (S : zS) (R : Unit × zS), zE (zDc t.1) h0 S (h, t) → hub a0 S = some R → zC (ia_P0 L xs fm) (d + 56) 5005 [.ref 7, .int a0] (h, t) (zQv (zDc t.1) h0 t R)) {ex : Int32 → zS → Option (Unit × zS)} {i1 : Int32} {R : Unit × zS} (hex : ∀ (x2 : Int32) (S : zS) (h : Nat → va_E), zE (zDc t.1) h0 S (h, t) → ex x2 S = some R → zW (ia_P0 L xs fm) ia_nx (d + 56) 5 false cX5_readMoreUnits 3 (none) 38 [(0, .ref 7), (1, .int i1), (2, .int x2)] [] (h, t) (zQv (zDc t.1) h0 t R)) : ∀ (k : Nat) (x2 : Int32) (S : zS) (h : Nat → va_E), zE (zDc t.1) h0 S (h, t) → f_X5_readMoreUnits_o_L2 hub ex i1 k x2 S = some R → zW (ia_P0 L xs fm) ia_nx (d + 56) 5 false cX5_readMoreUnits 3 (none) 2 [(0, .ref 7), (1, .int i1), (2, .int x2)] [] (h, t) (zQv (zDc t.1) h0 t R) := by
  intro k
  induction k with
  | zero => intro x2 S h hE hf; cases hf
  | succ k ih =>
    intro x2 S h hE hf
    unfold f_X5_readMoreUnits_o_L2 at hf
    refine z_iload_n dX5_readMoreUnits_2 rfl ?_
    refine z_sipush (v := 200) dX5_readMoreUnits_3 (by decide) ?_
    by_cases c1 : 200 ≤ x2
    · have hf := zif_t hf c1
      refine z_icmp_ge_t (tgt := 38) dX5_readMoreUnits_6 (by decide) c1 ?_
      exact zW.sub (hex x2 S _ hE hf) [0, 1, 2] rfl rfl rfl rfl
    · have hf := zif_f hf c1
      refine z_icmp_ge_f (tgt := 38) dX5_readMoreUnits_6 (by decide) c1 ?_
      refine z_aload_n dX5_readMoreUnits_9 rfl ?_
      refine z_getC dX5_readMoreUnits_10 tF_5_15 hE dc_7 rfl rfl ?_
      refine z_bipush (v := 38) dX5_readMoreUnits_13 (by decide) ?_
      obtain ⟨r3, S2, k4, hf⟩ := zb_some hf
      refine z_callVi dX5_readMoreUnits_15 tM_5_31 mt_9008 (Nat.le_of_ble_eq_true rfl) rfl rfl (z_recv hE dc_1 rfl) rfl (ia_oks_le hn1 rfl) (Nat.le_of_ble_eq_true rfl) (w_X9_takes hn1 hn2 (d + 54) hE k4) (fun h hE => ?_)
      by_cases c5 : r3 = 0
      · have hf := zif_t hf c5
        refine z_if_eq_t (tgt := 38) dX5_readMoreUnits_18 (by decide) c5 ?_
        exact zW.sub (hex x2 S2 _ hE hf) [0, 1, 2] rfl rfl rfl rfl
      · have hf := zif_f hf c5
        refine z_if_eq_f (tgt := 38) dX5_readMoreUnits_18 (by decide) c5 ?_
        refine z_aload_n dX5_readMoreUnits_21 rfl ?_
        refine z_iload_n dX5_readMoreUnits_22 rfl ?_
        obtain ⟨r7, S6, k8, hf⟩ := zb_some hf
        refine z_callVv dX5_readMoreUnits_23 tM_5_73 mt_5005 (Nat.le_of_ble_eq_true rfl) rfl rfl (z_recv hE dc_7 rfl) rfl (ia_oks_le hn1 rfl) (Nat.le_of_ble_eq_true rfl) ((hh i1 h S2 _ hE k8).mono (by omega)) (fun h hE => ?_)
        refine z_aload_n dX5_readMoreUnits_26 rfl ?_
        refine z_bipush (v := 38) dX5_readMoreUnits_27 (by decide) ?_
        obtain ⟨r10, S9, k11, hf⟩ := zb_some hf
        refine z_callVv dX5_readMoreUnits_29 tM_5_67 mt_5007 (Nat.le_of_ble_eq_true rfl) rfl rfl (z_recv hE dc_7 rfl) rfl (ia_oks_le hn1 rfl) (Nat.le_of_ble_eq_true rfl) (w_X5_put hn1 hn2 (d + 55) hE k11) (fun h hE => ?_)
        obtain ⟨y12, ey12, hf⟩ := zl_some hf
        refine z_iincY (v := 1) (y := y12) (lv' := [(2, .int y12), (0, .ref 7), (1, .int i1)]) dX5_readMoreUnits_32 rfl (by decide) (by decide) ey12 rfl ?_
        refine z_goto (tgt := 2) dX5_readMoreUnits_35 (by decide) ?_
        exact zW.sub (ih y12 S9 _ hE hf) [1, 2, 0] rfl rfl rfl rfl
theorem w_X5_readMoreUnits_o {L : Nat} {xs : Nat → Int32} {fm : Bool} {h0 : Nat → va_E} {t : Nat × Nat × Nat} (hn1 : 64 ≤ t.1) (hn2 : t.1 ≤ 1000000) (d : Nat) {hub : Int32 → zS → Option (Unit × zS)} (hh : ∀ (a0 : Int32) (h : Nat → va_E) (S : zS) (R : Unit × zS), zE (zDc t.1) h0 S (h, t) → hub a0 S = some R → zC (ia_P0 L xs fm) (d + 56) 5005 [.ref 7, .int a0] (h, t) (zQv (zDc t.1) h0 t R)) {h : Nat → va_E} {S : zS} (hE : zE (zDc t.1) h0 S (h, t)) {v1 : Int32} {R : Unit × zS} (hf : f_X5_readMoreUnits_o hub v1 S = some R) : zC (ia_P0 L xs fm) (d + 57) 5013 [.ref 7, .int v1] (h, t) (zQv (zDc t.1) h0 t R) := by
  refine zC_of mt_5013 nn_5013 (Nat.le_of_ble_eq_true rfl) ?_
  refine zW_lv (lv' := [(0, .ref 7), (1, .int v1)]) rfl ?_
  unfold f_X5_readMoreUnits_o at hf
  refine z_iconst (v := 0) dX5_readMoreUnits_0 (by decide) ?_
  refine z_istore_n (lv' := [(2, .int 0), (0, .ref 7), (1, .int v1)]) dX5_readMoreUnits_1 (by decide) rfl ?_
  refine zW.sub (w_X5_readMoreUnits_o_L2 hn1 hn2 d hh (fun q14 S13 h hE hf => ?_) zN 0 S h hE hf) [1, 2, 0] rfl rfl rfl rfl
  try dsimp only at hf
  have e_ := Option.some.inj hf
  subst e_
  exact z_vreturn dX5_readMoreUnits_38 rfl ⟨h, rfl, rfl, hE⟩
def f_X5_readTruth_o (hub : Int32 → zS → Option (Unit × zS)) (v1 : Int32) (S : zS) : Option (Unit × zS) :=
zb (hub v1 S) fun _ S1 =>
zb (f_X5_readMoreUnits_o hub v1 S1) fun _ S4 =>
some ((), S4)
theorem w_X5_readTruth_o {L : Nat} {xs : Nat → Int32} {fm : Bool} {h0 : Nat → va_E} {t : Nat × Nat × Nat} (hn1 : 64 ≤ t.1) (hn2 : t.1 ≤ 1000000) (d : Nat) {hub : Int32 → zS → Option (Unit × zS)} (hh : ∀ (a0 : Int32) (h : Nat → va_E) (S : zS) (R : Unit × zS), zE (zDc t.1) h0 S (h, t) → hub a0 S = some R → zC (ia_P0 L xs fm) (d + 56) 5005 [.ref 7, .int a0] (h, t) (zQv (zDc t.1) h0 t R)) {h : Nat → va_E} {S : zS} (hE : zE (zDc t.1) h0 S (h, t)) {v1 : Int32} {R : Unit × zS} (hf : f_X5_readTruth_o hub v1 S = some R) : zC (ia_P0 L xs fm) (d + 58) 5004 [.ref 7, .int v1] (h, t) (zQv (zDc t.1) h0 t R) := by
  refine zC_of mt_5004 nn_5004 (Nat.le_of_ble_eq_true rfl) ?_
  refine zW_lv (lv' := [(0, .ref 7), (1, .int v1)]) rfl ?_
  unfold f_X5_readTruth_o at hf
  refine z_aload_n dX5_readTruth_0 rfl ?_
  refine z_iload_n dX5_readTruth_1 rfl ?_
  obtain ⟨r2, S1, k3, hf⟩ := zb_some hf
  refine z_callVv dX5_readTruth_2 tM_5_73 mt_5005 (Nat.le_of_ble_eq_true rfl) rfl rfl (z_recv hE dc_7 rfl) rfl (ia_oks_le hn1 rfl) (Nat.le_of_ble_eq_true rfl) ((hh v1 h S _ hE k3).mono (by omega)) (fun h hE => ?_)
  refine z_aload_n dX5_readTruth_5 rfl ?_
  refine z_iload_n dX5_readTruth_6 rfl ?_
  obtain ⟨r5, S4, k6, hf⟩ := zb_some hf
  refine z_callVv dX5_readTruth_7 tM_5_61 mt_5013 (Nat.le_of_ble_eq_true rfl) rfl rfl (z_recv hE dc_7 rfl) rfl (ia_oks_le hn1 rfl) (Nat.le_of_ble_eq_true rfl) (w_X5_readMoreUnits_o hn1 hn2 (d + 0) (fun a0 h S R hE hk => (hh a0 h S R hE hk).mono (by omega)) hE k6) (fun h hE => ?_)
  have e_ := Option.some.inj hf
  subst e_
  exact z_vreturn dX5_readTruth_10 rfl ⟨h, rfl, rfl, hE⟩
def f_X5_readMoreTruths_o_L2 (hub : Int32 → zS → Option (Unit × zS)) (ex : Int32 → zS → Option (Unit × zS)) (i1 : Int32) : Nat → Int32 → zS → Option (Unit × zS)
  | 0, _, _ => none
  | k + 1, x2, S =>
    if 200 ≤ x2 then
    ex x2 S
    else
    zb (f_X9_takes 124 S) fun r3 S2 =>
    if r3 = 0 then
    ex x2 S2
    else
    zb (f_X5_readTruth_o hub i1 S2) fun _ S6 =>
    zb (f_X5_put 124 S6) fun _ S9 =>
    zl (x2 + 1) fun (y12 : Int32) =>
    f_X5_readMoreTruths_o_L2 hub ex i1 k y12 S9
def f_X5_readMoreTruths_o (hub : Int32 → zS → Option (Unit × zS)) (v1 : Int32) (S : zS) : Option (Unit × zS) :=
f_X5_readMoreTruths_o_L2 hub (fun (q14 : Int32) (S13 : zS) =>
some ((), S13)) v1 zN 0 S
theorem w_X5_readMoreTruths_o_L2 {L : Nat} {xs : Nat → Int32} {fm : Bool} {h0 : Nat → va_E} {t : Nat × Nat × Nat} (hn1 : 64 ≤ t.1) (hn2 : t.1 ≤ 1000000) (d : Nat) {hub : Int32 → zS → Option (Unit × zS)} (hh : ∀ (a0 : Int32) (h : Nat → va_E) (S : zS) (R : Unit × zS), zE (zDc t.1) h0 S (h, t) → hub a0 S = some R → zC (ia_P0 L xs fm) (d + 56) 5005 [.ref 7, .int a0] (h, t) (zQv (zDc t.1) h0 t R)) {ex : Int32 → zS → Option (Unit × zS)} {i1 : Int32} {R : Unit × zS} (hex : ∀ (x2 : Int32) (S : zS) (h : Nat → va_E), zE (zDc t.1) h0 S (h, t) → ex x2 S = some R → zW (ia_P0 L xs fm) ia_nx (d + 58) 5 false cX5_readMoreTruths 3 (none) 38 [(0, .ref 7), (1, .int i1), (2, .int x2)] [] (h, t) (zQv (zDc t.1) h0 t R)) : ∀ (k : Nat) (x2 : Int32) (S : zS) (h : Nat → va_E), zE (zDc t.1) h0 S (h, t) → f_X5_readMoreTruths_o_L2 hub ex i1 k x2 S = some R → zW (ia_P0 L xs fm) ia_nx (d + 58) 5 false cX5_readMoreTruths 3 (none) 2 [(0, .ref 7), (1, .int i1), (2, .int x2)] [] (h, t) (zQv (zDc t.1) h0 t R) := by
  intro k
  induction k with
  | zero => intro x2 S h hE hf; cases hf
  | succ k ih =>
    intro x2 S h hE hf
    unfold f_X5_readMoreTruths_o_L2 at hf
    refine z_iload_n dX5_readMoreTruths_2 rfl ?_
    refine z_sipush (v := 200) dX5_readMoreTruths_3 (by decide) ?_
    by_cases c1 : 200 ≤ x2
    · have hf := zif_t hf c1
      refine z_icmp_ge_t (tgt := 38) dX5_readMoreTruths_6 (by decide) c1 ?_
      exact zW.sub (hex x2 S _ hE hf) [0, 1, 2] rfl rfl rfl rfl
    · have hf := zif_f hf c1
      refine z_icmp_ge_f (tgt := 38) dX5_readMoreTruths_6 (by decide) c1 ?_
      refine z_aload_n dX5_readMoreTruths_9 rfl ?_
      refine z_getC dX5_readMoreTruths_10 tF_5_15 hE dc_7 rfl rfl ?_
      refine z_bipush (v := 124) dX5_readMoreTruths_13 (by decide) ?_
      obtain ⟨r3, S2, k4, hf⟩ := zb_some hf
      refine z_callVi dX5_readMoreTruths_15 tM_5_31 mt_9008 (Nat.le_of_ble_eq_true rfl) rfl rfl (z_recv hE dc_1 rfl) rfl (ia_oks_le hn1 rfl) (Nat.le_of_ble_eq_true rfl) (w_X9_takes hn1 hn2 (d + 56) hE k4) (fun h hE => ?_)
      by_cases c5 : r3 = 0
      · have hf := zif_t hf c5
        refine z_if_eq_t (tgt := 38) dX5_readMoreTruths_18 (by decide) c5 ?_
        exact zW.sub (hex x2 S2 _ hE hf) [0, 1, 2] rfl rfl rfl rfl
      · have hf := zif_f hf c5
        refine z_if_eq_f (tgt := 38) dX5_readMoreTruths_18 (by decide) c5 ?_
        refine z_aload_n dX5_readMoreTruths_21 rfl ?_
        refine z_iload_n dX5_readMoreTruths_22 rfl ?_
        obtain ⟨r7, S6, k8, hf⟩ := zb_some hf
        refine z_callVv dX5_readMoreTruths_23 tM_5_70 mt_5004 (Nat.le_of_ble_eq_true rfl) rfl rfl (z_recv hE dc_7 rfl) rfl (ia_oks_le hn1 rfl) (Nat.le_of_ble_eq_true rfl) (w_X5_readTruth_o hn1 hn2 (d + 0) (fun a0 h S R hE hk => (hh a0 h S R hE hk).mono (by omega)) hE k8) (fun h hE => ?_)
        refine z_aload_n dX5_readMoreTruths_26 rfl ?_
        refine z_bipush (v := 124) dX5_readMoreTruths_27 (by decide) ?_
        obtain ⟨r10, S9, k11, hf⟩ := zb_some hf
        refine z_callVv dX5_readMoreTruths_29 tM_5_67 mt_5007 (Nat.le_of_ble_eq_true rfl) rfl rfl (z_recv hE dc_7 rfl) rfl (ia_oks_le hn1 rfl) (Nat.le_of_ble_eq_true rfl) (w_X5_put hn1 hn2 (d + 57) hE k11) (fun h hE => ?_)
        obtain ⟨y12, ey12, hf⟩ := zl_some hf
        refine z_iincY (v := 1) (y := y12) (lv' := [(2, .int y12), (0, .ref 7), (1, .int i1)]) dX5_readMoreTruths_32 rfl (by decide) (by decide) ey12 rfl ?_
        refine z_goto (tgt := 2) dX5_readMoreTruths_35 (by decide) ?_
        exact zW.sub (ih y12 S9 _ hE hf) [1, 2, 0] rfl rfl rfl rfl
theorem w_X5_readMoreTruths_o {L : Nat} {xs : Nat → Int32} {fm : Bool} {h0 : Nat → va_E} {t : Nat × Nat × Nat} (hn1 : 64 ≤ t.1) (hn2 : t.1 ≤ 1000000) (d : Nat) {hub : Int32 → zS → Option (Unit × zS)} (hh : ∀ (a0 : Int32) (h : Nat → va_E) (S : zS) (R : Unit × zS), zE (zDc t.1) h0 S (h, t) → hub a0 S = some R → zC (ia_P0 L xs fm) (d + 56) 5005 [.ref 7, .int a0] (h, t) (zQv (zDc t.1) h0 t R)) {h : Nat → va_E} {S : zS} (hE : zE (zDc t.1) h0 S (h, t)) {v1 : Int32} {R : Unit × zS} (hf : f_X5_readMoreTruths_o hub v1 S = some R) : zC (ia_P0 L xs fm) (d + 59) 5014 [.ref 7, .int v1] (h, t) (zQv (zDc t.1) h0 t R) := by
  refine zC_of mt_5014 nn_5014 (Nat.le_of_ble_eq_true rfl) ?_
  refine zW_lv (lv' := [(0, .ref 7), (1, .int v1)]) rfl ?_
  unfold f_X5_readMoreTruths_o at hf
  refine z_iconst (v := 0) dX5_readMoreTruths_0 (by decide) ?_
  refine z_istore_n (lv' := [(2, .int 0), (0, .ref 7), (1, .int v1)]) dX5_readMoreTruths_1 (by decide) rfl ?_
  refine zW.sub (w_X5_readMoreTruths_o_L2 hn1 hn2 d hh (fun q14 S13 h hE hf => ?_) zN 0 S h hE hf) [1, 2, 0] rfl rfl rfl rfl
  try dsimp only at hf
  have e_ := Option.some.inj hf
  subst e_
  exact z_vreturn dX5_readMoreTruths_38 rfl ⟨h, rfl, rfl, hE⟩
def f_X5_readCondition_o (hub : Int32 → zS → Option (Unit × zS)) (v1 : Int32) (S : zS) : Option (Unit × zS) :=
zb (f_X5_readTruth_o hub v1 S) fun _ S1 =>
zb (f_X5_readMoreTruths_o hub v1 S1) fun _ S4 =>
some ((), S4)
theorem w_X5_readCondition_o {L : Nat} {xs : Nat → Int32} {fm : Bool} {h0 : Nat → va_E} {t : Nat × Nat × Nat} (hn1 : 64 ≤ t.1) (hn2 : t.1 ≤ 1000000) (d : Nat) {hub : Int32 → zS → Option (Unit × zS)} (hh : ∀ (a0 : Int32) (h : Nat → va_E) (S : zS) (R : Unit × zS), zE (zDc t.1) h0 S (h, t) → hub a0 S = some R → zC (ia_P0 L xs fm) (d + 56) 5005 [.ref 7, .int a0] (h, t) (zQv (zDc t.1) h0 t R)) {h : Nat → va_E} {S : zS} (hE : zE (zDc t.1) h0 S (h, t)) {v1 : Int32} {R : Unit × zS} (hf : f_X5_readCondition_o hub v1 S = some R) : zC (ia_P0 L xs fm) (d + 60) 5003 [.ref 7, .int v1] (h, t) (zQv (zDc t.1) h0 t R) := by
  refine zC_of mt_5003 nn_5003 (Nat.le_of_ble_eq_true rfl) ?_
  refine zW_lv (lv' := [(0, .ref 7), (1, .int v1)]) rfl ?_
  unfold f_X5_readCondition_o at hf
  refine z_aload_n dX5_readCondition_0 rfl ?_
  refine z_iload_n dX5_readCondition_1 rfl ?_
  obtain ⟨r2, S1, k3, hf⟩ := zb_some hf
  refine z_callVv dX5_readCondition_2 tM_5_70 mt_5004 (Nat.le_of_ble_eq_true rfl) rfl rfl (z_recv hE dc_7 rfl) rfl (ia_oks_le hn1 rfl) (Nat.le_of_ble_eq_true rfl) (w_X5_readTruth_o hn1 hn2 (d + 1) (fun a0 h S R hE hk => (hh a0 h S R hE hk).mono (by omega)) hE k3) (fun h hE => ?_)
  refine z_aload_n dX5_readCondition_5 rfl ?_
  refine z_iload_n dX5_readCondition_6 rfl ?_
  obtain ⟨r5, S4, k6, hf⟩ := zb_some hf
  refine z_callVv dX5_readCondition_7 tM_5_64 mt_5014 (Nat.le_of_ble_eq_true rfl) rfl rfl (z_recv hE dc_7 rfl) rfl (ia_oks_le hn1 rfl) (Nat.le_of_ble_eq_true rfl) (w_X5_readMoreTruths_o hn1 hn2 (d + 0) (fun a0 h S R hE hk => (hh a0 h S R hE hk).mono (by omega)) hE k6) (fun h hE => ?_)
  have e_ := Option.some.inj hf
  subst e_
  exact z_vreturn dX5_readCondition_10 rfl ⟨h, rfl, rfl, hE⟩
def f_X5_readUnit_o (hub : Int32 → zS → Option (Unit × zS)) (v1 : Int32) (S : zS) : Option (Unit × zS) :=
zb (f_X9_sign S) fun r2 S1 =>
if ¬ r2 = 33 then
if ¬ r2 = 40 then
zb (f_X5_readSum v1 S1) fun _ S6 =>
zb (f_X5_readRelation v1 S6) fun _ S9 =>
some ((), S9)
else
zb (f_X5_enters v1 S1) fun r13 S12 =>
if r13 = 0 then
some ((), S12)
else
zb (f_X5_readCondition_o hub (v1 + 1) S12) fun _ S16 =>
zb (f_X9_needs 41 S16) fun _ S19 =>
some ((), S19)
else
zb (f_X5_enters v1 S1) fun r23 S22 =>
if r23 = 0 then
some ((), S22)
else
zb (hub (v1 + 1) S22) fun _ S26 =>
zb (f_X5_put 33 S26) fun _ S29 =>
some ((), S29)
theorem w_X5_readUnit_o {L : Nat} {xs : Nat → Int32} {fm : Bool} {h0 : Nat → va_E} {t : Nat × Nat × Nat} (hn1 : 64 ≤ t.1) (hn2 : t.1 ≤ 1000000) (d : Nat) {hub : Int32 → zS → Option (Unit × zS)} (hh : ∀ (a0 : Int32) (h : Nat → va_E) (S : zS) (R : Unit × zS), zE (zDc t.1) h0 S (h, t) → hub a0 S = some R → zC (ia_P0 L xs fm) (d + 56) 5005 [.ref 7, .int a0] (h, t) (zQv (zDc t.1) h0 t R)) {h : Nat → va_E} {S : zS} (hE : zE (zDc t.1) h0 S (h, t)) {v1 : Int32} {R : Unit × zS} (hf : f_X5_readUnit_o hub v1 S = some R) : zC (ia_P0 L xs fm) (d + 61) 5005 [.ref 7, .int v1] (h, t) (zQv (zDc t.1) h0 t R) := by
  refine zC_of mt_5005 nn_5005 (Nat.le_of_ble_eq_true rfl) ?_
  refine zW_lv (lv' := [(0, .ref 7), (1, .int v1)]) rfl ?_
  unfold f_X5_readUnit_o at hf
  refine z_aload_n dX5_readUnit_0 rfl ?_
  refine z_getC dX5_readUnit_1 tF_5_15 hE dc_7 rfl rfl ?_
  obtain ⟨r2, S1, k3, hf⟩ := zb_some hf
  refine z_callVi dX5_readUnit_4 tM_5_45 mt_9004 (Nat.le_of_ble_eq_true rfl) rfl rfl (z_recv hE dc_1 rfl) rfl (ia_oks_le hn1 rfl) (Nat.le_of_ble_eq_true rfl) (w_X9_sign hn1 hn2 (d + 59) hE k3) (fun h hE => ?_)
  refine z_istore_n (lv' := [(2, .int r2), (0, .ref 7), (1, .int v1)]) dX5_readUnit_7 (by decide) rfl ?_
  refine z_iload_n dX5_readUnit_8 rfl ?_
  refine z_bipush (v := 33) dX5_readUnit_9 (by decide) ?_
  by_cases c4 : ¬ r2 = 33
  · have hf := zif_t hf c4
    refine z_icmp_ne_t (tgt := 38) dX5_readUnit_11 (by decide) c4 ?_
    refine z_iload_n dX5_readUnit_38 rfl ?_
    refine z_bipush (v := 40) dX5_readUnit_39 (by decide) ?_
    by_cases c5 : ¬ r2 = 40
    · have hf := zif_t hf c5
      refine z_icmp_ne_t (tgt := 71) dX5_readUnit_41 (by decide) c5 ?_
      refine z_aload_n dX5_readUnit_71 rfl ?_
      refine z_iload_n dX5_readUnit_72 rfl ?_
      obtain ⟨r7, S6, k8, hf⟩ := zb_some hf
      refine z_callVv dX5_readUnit_73 tM_5_52 mt_5008 (Nat.le_of_ble_eq_true rfl) rfl rfl (z_recv hE dc_7 rfl) rfl (ia_oks_le hn1 rfl) (Nat.le_of_ble_eq_true rfl) (w_X5_readSum hn1 hn2 (d + 5) hE k8) (fun h hE => ?_)
      refine z_aload_n dX5_readUnit_76 rfl ?_
      refine z_iload_n dX5_readUnit_77 rfl ?_
      obtain ⟨r10, S9, k11, hf⟩ := zb_some hf
      refine z_callVv dX5_readUnit_78 tM_5_58 mt_5011 (Nat.le_of_ble_eq_true rfl) rfl rfl (z_recv hE dc_7 rfl) rfl (ia_oks_le hn1 rfl) (Nat.le_of_ble_eq_true rfl) (w_X5_readRelation hn1 hn2 (d + 4) hE k11) (fun h hE => ?_)
      have e_ := Option.some.inj hf
      subst e_
      exact z_vreturn dX5_readUnit_81 rfl ⟨h, rfl, rfl, hE⟩
    · have hf := zif_f hf c5
      refine z_icmp_ne_f (tgt := 71) dX5_readUnit_41 (by decide) c5 ?_
      refine z_aload_n dX5_readUnit_44 rfl ?_
      refine z_iload_n dX5_readUnit_45 rfl ?_
      obtain ⟨r13, S12, k14, hf⟩ := zb_some hf
      refine z_callVi dX5_readUnit_46 tM_5_76 mt_5006 (Nat.le_of_ble_eq_true rfl) rfl rfl (z_recv hE dc_7 rfl) rfl (ia_oks_le hn1 rfl) (Nat.le_of_ble_eq_true rfl) (w_X5_enters hn1 hn2 (d + 58) hE k14) (fun h hE => ?_)
      by_cases c15 : r13 = 0
      · have hf := zif_t hf c15
        refine z_if_eq_t (tgt := 81) dX5_readUnit_49 (by decide) c15 ?_
        have e_ := Option.some.inj hf
        subst e_
        exact z_vreturn dX5_readUnit_81 rfl ⟨h, rfl, rfl, hE⟩
      · have hf := zif_f hf c15
        refine z_if_eq_f (tgt := 81) dX5_readUnit_49 (by decide) c15 ?_
        refine z_aload_n dX5_readUnit_52 rfl ?_
        refine z_iload_n dX5_readUnit_53 rfl ?_
        refine z_iconst (v := 1) dX5_readUnit_54 (by decide) ?_
        refine z_iadd dX5_readUnit_55 ?_
        obtain ⟨r17, S16, k18, hf⟩ := zb_some hf
        refine z_callVv dX5_readUnit_56 tM_5_49 mt_5003 (Nat.le_of_ble_eq_true rfl) rfl rfl (z_recv hE dc_7 rfl) rfl (ia_oks_le hn1 rfl) (Nat.le_of_ble_eq_true rfl) (w_X5_readCondition_o hn1 hn2 (d + 0) (fun a0 h S R hE hk => (hh a0 h S R hE hk).mono (by omega)) hE k18) (fun h hE => ?_)
        refine z_aload_n dX5_readUnit_59 rfl ?_
        refine z_getC dX5_readUnit_60 tF_5_15 hE dc_7 rfl rfl ?_
        refine z_bipush (v := 41) dX5_readUnit_63 (by decide) ?_
        obtain ⟨r20, S19, k21, hf⟩ := zb_some hf
        refine z_callVv dX5_readUnit_65 tM_5_41 mt_9010 (Nat.le_of_ble_eq_true rfl) rfl rfl (z_recv hE dc_1 rfl) rfl (ia_oks_le hn1 rfl) (Nat.le_of_ble_eq_true rfl) (w_X9_needs hn1 hn2 (d + 58) hE k21) (fun h hE => ?_)
        refine z_goto (tgt := 81) dX5_readUnit_68 (by decide) ?_
        have e_ := Option.some.inj hf
        subst e_
        exact z_vreturn dX5_readUnit_81 rfl ⟨h, rfl, rfl, hE⟩
  · have hf := zif_f hf c4
    refine z_icmp_ne_f (tgt := 38) dX5_readUnit_11 (by decide) c4 ?_
    refine z_aload_n dX5_readUnit_14 rfl ?_
    refine z_iload_n dX5_readUnit_15 rfl ?_
    obtain ⟨r23, S22, k24, hf⟩ := zb_some hf
    refine z_callVi dX5_readUnit_16 tM_5_76 mt_5006 (Nat.le_of_ble_eq_true rfl) rfl rfl (z_recv hE dc_7 rfl) rfl (ia_oks_le hn1 rfl) (Nat.le_of_ble_eq_true rfl) (w_X5_enters hn1 hn2 (d + 58) hE k24) (fun h hE => ?_)
    by_cases c25 : r23 = 0
    · have hf := zif_t hf c25
      refine z_if_eq_t (tgt := 81) dX5_readUnit_19 (by decide) c25 ?_
      have e_ := Option.some.inj hf
      subst e_
      exact z_vreturn dX5_readUnit_81 rfl ⟨h, rfl, rfl, hE⟩
    · have hf := zif_f hf c25
      refine z_if_eq_f (tgt := 81) dX5_readUnit_19 (by decide) c25 ?_
      refine z_aload_n dX5_readUnit_22 rfl ?_
      refine z_iload_n dX5_readUnit_23 rfl ?_
      refine z_iconst (v := 1) dX5_readUnit_24 (by decide) ?_
      refine z_iadd dX5_readUnit_25 ?_
      obtain ⟨r27, S26, k28, hf⟩ := zb_some hf
      refine z_callVv dX5_readUnit_26 tM_5_73 mt_5005 (Nat.le_of_ble_eq_true rfl) rfl rfl (z_recv hE dc_7 rfl) rfl (ia_oks_le hn1 rfl) (Nat.le_of_ble_eq_true rfl) ((hh (v1 + 1) h S22 _ hE k28).mono (by omega)) (fun h hE => ?_)
      refine z_aload_n dX5_readUnit_29 rfl ?_
      refine z_bipush (v := 33) dX5_readUnit_30 (by decide) ?_
      obtain ⟨r30, S29, k31, hf⟩ := zb_some hf
      refine z_callVv dX5_readUnit_32 tM_5_67 mt_5007 (Nat.le_of_ble_eq_true rfl) rfl rfl (z_recv hE dc_7 rfl) rfl (ia_oks_le hn1 rfl) (Nat.le_of_ble_eq_true rfl) (w_X5_put hn1 hn2 (d + 59) hE k31) (fun h hE => ?_)
      refine z_goto (tgt := 81) dX5_readUnit_35 (by decide) ?_
      have e_ := Option.some.inj hf
      subst e_
      exact z_vreturn dX5_readUnit_81 rfl ⟨h, rfl, rfl, hE⟩
def f_X5_readUnit_g : Nat → Int32 → zS → Option (Unit × zS)
  | 0 => fun _ _ => none
  | g + 1 => f_X5_readUnit_o (f_X5_readUnit_g g)
theorem w_X5_readUnit_g {L : Nat} {xs : Nat → Int32} {fm : Bool} {h0 : Nat → va_E} {t : Nat × Nat × Nat} (hn1 : 64 ≤ t.1) (hn2 : t.1 ≤ 1000000) (d : Nat) : ∀ g : Nat, ∀ (a0 : Int32) (h : Nat → va_E) (S : zS) (R : Unit × zS), zE (zDc t.1) h0 S (h, t) → f_X5_readUnit_g g a0 S = some R → zC (ia_P0 L xs fm) (d + 5 * g + 56) 5005 [.ref 7, .int a0] (h, t) (zQv (zDc t.1) h0 t R) := by
  intro g
  induction g with
  | zero => intro a0 h S R hE hf; cases hf
  | succ g ih => intro a0 h S R hE hf; exact (w_X5_readUnit_o hn1 hn2 (d + 5 * g) ih hE hf).mono (by omega)
end ZX
