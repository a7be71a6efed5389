section ZX
def f_X11_opens (v1 : Int32) (S : zS) : Option (Int32 × zS) :=
zb (f_X11_lidIsShut S) fun r2 S1 =>
if r2 = 0 then
some ((-1), S1)
else
if v1 < 0 then
some ((-1), S1)
else
if v1 < (1 <<< ((S1.1 12 1) &&& 31)) then
zb (f_X0_gather_17 S1) fun _ S7 =>
zb (f_X0_canOpen v1 S7) fun r11 S10 =>
if r11 = 0 then
some (0, S10)
else
some (1, S10)
else
some ((-1), S1)
theorem w_X11_opens {L : Nat} {xs : Nat → Int32} {fm : Bool} {h0 : Nat → va_E} {t : Nat × Nat × Nat} (hn1 : 64 ≤ t.1) (hn2 : t.1 ≤ 1000000) (d : Nat) {h : Nat → va_E} {S : zS} (hE : zE (zDc t.1) h0 S (h, t)) {v1 : Int32} {R : Int32 × zS} (hf : f_X11_opens v1 S = some R) : zC (ia_P0 L xs fm) (d + 5) 11034 [.ref 0, .int v1] (h, t) (zQi (zDc t.1) h0 t R) := by
  refine zC_of mt_11034 nn_11034 (Nat.le_of_ble_eq_true rfl) ?_
  refine zW_lv (lv' := [(0, .ref 0), (1, .int v1)]) rfl ?_
  unfold f_X11_opens at hf
  refine z_aload_n dX11_opens_0 rfl ?_
  obtain ⟨r2, S1, k3, hf⟩ := zb_some hf
  refine z_callVi dX11_opens_1 tM_11_223 mt_11019 (Nat.le_of_ble_eq_true rfl) rfl rfl (z_recv hE dc_0 rfl) rfl (ia_oks_le hn1 rfl) (Nat.le_of_ble_eq_true rfl) (w_X11_lidIsShut hn1 hn2 (d + 1) hE k3) (fun h hE => ?_)
  by_cases c4 : r2 = 0
  · have hf := zif_t hf c4
    refine z_if_eq_t (tgt := 26) dX11_opens_4 (by decide) c4 ?_
    refine z_iconst (v := (-1)) dX11_opens_26 (by decide) ?_
    have e_ := Option.some.inj hf
    subst e_
    exact z_ireturn dX11_opens_27 rfl ⟨h, rfl, rfl, hE⟩
  · have hf := zif_f hf c4
    refine z_if_eq_f (tgt := 26) dX11_opens_4 (by decide) c4 ?_
    refine z_iload_n dX11_opens_7 rfl ?_
    by_cases c5 : v1 < 0
    · have hf := zif_t hf c5
      refine z_if_lt_t (tgt := 26) dX11_opens_8 (by decide) c5 ?_
      refine z_iconst (v := (-1)) dX11_opens_26 (by decide) ?_
      have e_ := Option.some.inj hf
      subst e_
      exact z_ireturn dX11_opens_27 rfl ⟨h, rfl, rfl, hE⟩
    · have hf := zif_f hf c5
      refine z_if_lt_f (tgt := 26) dX11_opens_8 (by decide) c5 ?_
      refine z_iload_n dX11_opens_11 rfl ?_
      refine z_iconst (v := 1) dX11_opens_12 (by decide) ?_
      refine z_aload_n dX11_opens_13 rfl ?_
      refine z_getC dX11_opens_14 tF_11_42 hE dc_0 rfl rfl ?_
      refine z_getC dX11_opens_17 tF_11_153 hE dc_11 rfl rfl ?_
      refine z_iconst (v := 1) dX11_opens_20 (by decide) ?_
      refine z_ialoadL (i := 1) dX11_opens_21 hE dc_12 (by decide) (by decide) ?_
      refine z_ishl dX11_opens_22 ?_
      by_cases c6 : v1 < (1 <<< ((S1.1 12 1) &&& 31))
      · have hf := zif_t hf c6
        refine z_icmp_lt_t (tgt := 28) dX11_opens_23 (by decide) c6 ?_
        refine z_aload_n dX11_opens_28 rfl ?_
        refine z_getC dX11_opens_29 tF_11_82 hE dc_0 rfl rfl ?_
        refine z_aload_n dX11_opens_32 rfl ?_
        refine z_getC dX11_opens_33 tF_11_58 hE dc_0 rfl rfl ?_
        obtain ⟨r8, S7, k9, hf⟩ := zb_some hf
        refine z_callVv dX11_opens_36 tM_11_284 mt_1 (Nat.le_of_ble_eq_true rfl) rfl rfl (z_recv hE dc_35 rfl) rfl (ia_oks_le hn1 rfl) (Nat.le_of_ble_eq_true rfl) (w_X0_gather_17 hn1 hn2 (d + 0) hE k9) (fun h hE => ?_)
        refine z_aload_n dX11_opens_39 rfl ?_
        refine z_getC dX11_opens_40 tF_11_82 hE dc_0 rfl rfl ?_
        refine z_iload_n dX11_opens_43 rfl ?_
        obtain ⟨r11, S10, k12, hf⟩ := zb_some hf
        refine z_callVi dX11_opens_44 tM_11_304 mt_6 (Nat.le_of_ble_eq_true rfl) rfl rfl (z_recv hE dc_35 rfl) rfl (ia_oks_le hn1 rfl) (Nat.le_of_ble_eq_true rfl) (w_X0_canOpen hn1 hn2 (d + 2) hE k12) (fun h hE => ?_)
        by_cases c13 : r11 = 0
        · have hf := zif_t hf c13
          refine z_if_eq_t (tgt := 54) dX11_opens_47 (by decide) c13 ?_
          refine z_iconst (v := 0) dX11_opens_54 (by decide) ?_
          have e_ := Option.some.inj hf
          subst e_
          exact z_ireturn dX11_opens_55 rfl ⟨h, rfl, rfl, hE⟩
        · have hf := zif_f hf c13
          refine z_if_eq_f (tgt := 54) dX11_opens_47 (by decide) c13 ?_
          refine z_iconst (v := 1) dX11_opens_50 (by decide) ?_
          refine z_goto (tgt := 55) dX11_opens_51 (by decide) ?_
          have e_ := Option.some.inj hf
          subst e_
          exact z_ireturn dX11_opens_55 rfl ⟨h, rfl, rfl, hE⟩
      · have hf := zif_f hf c6
        refine z_icmp_lt_f (tgt := 28) dX11_opens_23 (by decide) c6 ?_
        refine z_iconst (v := (-1)) dX11_opens_26 (by decide) ?_
        have e_ := Option.some.inj hf
        subst e_
        exact z_ireturn dX11_opens_27 rfl ⟨h, rfl, rfl, hE⟩
def f_X0_factorial_L4 (ex : Int32 → Int32 → zS → Option (Int32 × zS)) (i0 : Int32) : Nat → Int32 → Int32 → zS → Option (Int32 × zS)
  | 0, _, _, _ => none
  | k + 1, x1, x2, S =>
    if i0 < x2 then
    ex x1 x2 S
    else
    zl (x1 * x2) fun (y2 : Int32) =>
    zl (x2 + 1) fun (y3 : Int32) =>
    f_X0_factorial_L4 ex i0 k y2 y3 S
def f_X0_factorial (v0 : Int32) (S : zS) : Option (Int32 × zS) :=
f_X0_factorial_L4 (fun (q5 : Int32) (q6 : Int32) (S4 : zS) =>
some (q5, S4)) v0 zN 1 2 S
theorem w_X0_factorial_L4 {L : Nat} {xs : Nat → Int32} {fm : Bool} {h0 : Nat → va_E} {t : Nat × Nat × Nat} (hn1 : 64 ≤ t.1) (hn2 : t.1 ≤ 1000000) (d : Nat) {ex : Int32 → Int32 → zS → Option (Int32 × zS)} {i0 : Int32} {R : Int32 × zS} (hex : ∀ (x1 : Int32) (x2 : Int32) (S : zS) (h : Nat → va_E), zE (zDc t.1) h0 S (h, t) → ex x1 x2 S = some R → zW (ia_P0 L xs fm) ia_nx (d + 0) 0 false cX0_factorial 3 (some .int) 19 [(0, .int i0), (1, .int x1), (2, .int x2)] [] (h, t) (zQi (zDc t.1) h0 t R)) : ∀ (k : Nat) (x1 : Int32) (x2 : Int32) (S : zS) (h : Nat → va_E), zE (zDc t.1) h0 S (h, t) → f_X0_factorial_L4 ex i0 k x1 x2 S = some R → zW (ia_P0 L xs fm) ia_nx (d + 0) 0 false cX0_factorial 3 (some .int) 4 [(0, .int i0), (1, .int x1), (2, .int x2)] [] (h, t) (zQi (zDc t.1) h0 t R) := by
  intro k
  induction k with
  | zero => intro x1 x2 S h hE hf; cases hf
  | succ k ih =>
    intro x1 x2 S h hE hf
    unfold f_X0_factorial_L4 at hf
    refine z_iload_n dX0_factorial_4 rfl ?_
    refine z_iload_n dX0_factorial_5 rfl ?_
    by_cases c1 : i0 < x2
    · have hf := zif_t hf c1
      refine z_icmp_gt_t (tgt := 19) dX0_factorial_6 (by decide) c1 ?_
      exact zW.sub (hex x1 x2 S _ hE hf) [0, 1, 2] rfl rfl rfl rfl
    · have hf := zif_f hf c1
      refine z_icmp_gt_f (tgt := 19) dX0_factorial_6 (by decide) c1 ?_
      refine z_iload_n dX0_factorial_9 rfl ?_
      refine z_iload_n dX0_factorial_10 rfl ?_
      refine z_imul dX0_factorial_11 ?_
      obtain ⟨y2, ey2, hf⟩ := zl_some hf
      refine z_topi ey2 ?_
      refine z_istore_n (lv' := [(1, .int y2), (0, .int i0), (2, .int x2)]) dX0_factorial_12 (by decide) rfl ?_
      obtain ⟨y3, ey3, hf⟩ := zl_some hf
      refine z_iincY (v := 1) (y := y3) (lv' := [(2, .int y3), (1, .int y2), (0, .int i0)]) dX0_factorial_13 rfl (by decide) (by decide) ey3 rfl ?_
      refine z_goto (tgt := 4) dX0_factorial_16 (by decide) ?_
      exact zW.sub (ih y2 y3 S _ hE hf) [2, 1, 0] rfl rfl rfl rfl
theorem w_X0_factorial {L : Nat} {xs : Nat → Int32} {fm : Bool} {h0 : Nat → va_E} {t : Nat × Nat × Nat} (hn1 : 64 ≤ t.1) (hn2 : t.1 ≤ 1000000) (d : Nat) {h : Nat → va_E} {S : zS} (hE : zE (zDc t.1) h0 S (h, t)) {v0 : Int32} {R : Int32 × zS} (hf : f_X0_factorial v0 S = some R) : zC (ia_P0 L xs fm) (d + 1) 8 [.int v0] (h, t) (zQi (zDc t.1) h0 t R) := by
  refine zC_of mt_8 nn_8 (Nat.le_of_ble_eq_true rfl) ?_
  refine zW_lv (lv' := [(0, .int v0)]) rfl ?_
  unfold f_X0_factorial at hf
  refine z_iconst (v := 1) dX0_factorial_0 (by decide) ?_
  refine z_istore_n (lv' := [(1, .int 1), (0, .int v0)]) dX0_factorial_1 (by decide) rfl ?_
  refine z_iconst (v := 2) dX0_factorial_2 (by decide) ?_
  refine z_istore_n (lv' := [(2, .int 2), (1, .int 1), (0, .int v0)]) dX0_factorial_3 (by decide) rfl ?_
  refine zW.sub (w_X0_factorial_L4 hn1 hn2 d (fun q5 q6 S4 h hE hf => ?_) zN 1 2 S h hE hf) [2, 1, 0] rfl rfl rfl rfl
  try dsimp only at hf
  refine z_iload_n dX0_factorial_19 rfl ?_
  have e_ := Option.some.inj hf
  subst e_
  exact z_ireturn dX0_factorial_20 rfl ⟨h, rfl, rfl, hE⟩
def f_X0_ordersDecidedBy_L4 (ex : Int32 → Int32 → zS → Option (Int32 × zS)) (i1 : Int32) : Nat → Int32 → Int32 → zS → Option (Int32 × zS)
  | 0, _, _, _ => none
  | k + 1, x2, x3, S =>
    if (1 <<< ((S.1 35 1) &&& 31)) ≤ x3 then
    ex x2 x3 S
    else
    zl (fun (q5 : Int32) (S4 : zS) =>
    zl (x3 + 1) fun (y6 : Int32) =>
    f_X0_ordersDecidedBy_L4 ex i1 k q5 y6 S4) fun J3 =>
    if ¬ ((x3 >>> (i1 &&& 31)) &&& 1) = 0 then
    J3 x2 S
    else
    zb (f_X0_canOpen x3 S) fun r8 S7 =>
    if ¬ r8 = 0 then
    J3 x2 S7
    else
    zb (f_X0_canOpen (x3 ||| (1 <<< (i1 &&& 31))) S7) fun r12 S11 =>
    if r12 = 0 then
    J3 x2 S11
    else
    zb (f_J6_bitCount_0f7a4 x3 S11) fun r16 S15 =>
    zb (f_X0_factorial r16 S15) fun r19 S18 =>
    zb (f_X0_factorial (((S18.1 35 1) - r16) - 1) S18) fun r22 S21 =>
    zl (x2 + (r19 * r22)) fun (y24 : Int32) =>
    J3 y24 S21
def f_X0_ordersDecidedBy (v1 : Int32) (S : zS) : Option (Int32 × zS) :=
f_X0_ordersDecidedBy_L4 (fun (q26 : Int32) (q27 : Int32) (S25 : zS) =>
some (q26, S25)) v1 zN 0 0 S
theorem w_X0_ordersDecidedBy_L4 {L : Nat} {xs : Nat → Int32} {fm : Bool} {h0 : Nat → va_E} {t : Nat × Nat × Nat} (hn1 : 64 ≤ t.1) (hn2 : t.1 ≤ 1000000) (d : Nat) {ex : Int32 → Int32 → zS → Option (Int32 × zS)} {i1 : Int32} {R : Int32 × zS} (hex : ∀ (x2 : Int32) (x3 : Int32) (S : zS) (h : Nat → va_E), zE (zDc t.1) h0 S (h, t) → ex x2 x3 S = some R → zW (ia_P0 L xs fm) ia_nx (d + 2) 0 false cX0_ordersDecidedBy 5 (some .int) 75 [(0, .ref 35), (1, .int i1), (2, .int x2), (3, .int x3)] [] (h, t) (zQi (zDc t.1) h0 t R)) : ∀ (k : Nat) (x2 : Int32) (x3 : Int32) (S : zS) (h : Nat → va_E), zE (zDc t.1) h0 S (h, t) → f_X0_ordersDecidedBy_L4 ex i1 k x2 x3 S = some R → zW (ia_P0 L xs fm) ia_nx (d + 2) 0 false cX0_ordersDecidedBy 5 (some .int) 4 [(0, .ref 35), (1, .int i1), (2, .int x2), (3, .int x3)] [] (h, t) (zQi (zDc t.1) h0 t R) := by
  intro k
  induction k with
  | zero => intro x2 x3 S h hE hf; cases hf
  | succ k ih =>
    intro x2 x3 S h hE hf
    unfold f_X0_ordersDecidedBy_L4 at hf
    refine z_iload_n dX0_ordersDecidedBy_4 rfl ?_
    refine z_iconst (v := 1) dX0_ordersDecidedBy_5 (by decide) ?_
    refine z_aload_n dX0_ordersDecidedBy_6 rfl ?_
    refine z_getI dX0_ordersDecidedBy_7 tF_0_26 hE dc_35 rfl rfl ?_
    refine z_ishl dX0_ordersDecidedBy_10 ?_
    by_cases c1 : (1 <<< ((S.1 35 1) &&& 31)) ≤ x3
    · have hf := zif_t hf c1
      refine z_icmp_ge_t (tgt := 75) dX0_ordersDecidedBy_11 (by decide) c1 ?_
      exact zW.sub (hex x2 x3 S _ hE hf) [0, 1, 2, 3] rfl rfl rfl rfl
    · have hf := zif_f hf c1
      refine z_icmp_ge_f (tgt := 75) dX0_ordersDecidedBy_11 (by decide) c1 ?_
      refine z_iload_n dX0_ordersDecidedBy_14 rfl ?_
      refine z_iload_n dX0_ordersDecidedBy_15 rfl ?_
      refine z_ishr dX0_ordersDecidedBy_16 ?_
      refine z_iconst (v := 1) dX0_ordersDecidedBy_17 (by decide) ?_
      refine z_iand dX0_ordersDecidedBy_18 ?_
      obtain ⟨J3, eJ3, hf⟩ := zl_some hf
      have hJ3 : ∀ (q5 : Int32) (S4 : zS) (h : Nat → va_E), zE (zDc t.1) h0 S4 (h, t) → J3 q5 S4 = some R → zW (ia_P0 L xs fm) ia_nx (d + 2) 0 false cX0_ordersDecidedBy 5 (some .int) 69 [(0, .ref 35), (1, .int i1), (2, .int q5), (3, .int x3)] [] (h, t) (zQi (zDc t.1) h0 t R) := by
        intro q5 S4 h hE hf
        rw [eJ3] at hf
        obtain ⟨y6, ey6, hf⟩ := zl_some hf
        refine z_iincY (v := 1) (y := y6) (lv' := [(3, .int y6), (0, .ref 35), (1, .int i1), (2, .int q5)]) dX0_ordersDecidedBy_69 rfl (by decide) (by decide) ey6 rfl ?_
        refine z_goto (tgt := 4) dX0_ordersDecidedBy_72 (by decide) ?_
        exact zW.sub (ih q5 y6 S4 _ hE hf) [1, 2, 3, 0] rfl rfl rfl rfl
      by_cases c2 : ¬ ((x3 >>> (i1 &&& 31)) &&& 1) = 0
      · have hf := zif_t hf c2
        refine z_if_ne_t (tgt := 69) dX0_ordersDecidedBy_19 (by decide) c2 ?_
        exact zW.sub (hJ3 x2 S _ hE hf) [0, 1, 2, 3] rfl rfl rfl rfl
      · have hf := zif_f hf c2
        refine z_if_ne_f (tgt := 69) dX0_ordersDecidedBy_19 (by decide) c2 ?_
        refine z_aload_n dX0_ordersDecidedBy_22 rfl ?_
        refine z_iload_n dX0_ordersDecidedBy_23 rfl ?_
        obtain ⟨r8, S7, k9, hf⟩ := zb_some hf
        refine z_callVi dX0_ordersDecidedBy_24 tM_0_60 mt_6 (Nat.le_of_ble_eq_true rfl) rfl rfl (z_recv hE dc_35 rfl) rfl (ia_oks_le hn1 rfl) (Nat.le_of_ble_eq_true rfl) (w_X0_canOpen hn1 hn2 (d + 0) hE k9) (fun h hE => ?_)
        by_cases c10 : ¬ r8 = 0
        · have hf := zif_t hf c10
          refine z_if_ne_t (tgt := 69) dX0_ordersDecidedBy_27 (by decide) c10 ?_
          exact zW.sub (hJ3 x2 S7 _ hE hf) [0, 1, 2, 3] rfl rfl rfl rfl
        · have hf := zif_f hf c10
          refine z_if_ne_f (tgt := 69) dX0_ordersDecidedBy_27 (by decide) c10 ?_
          refine z_aload_n dX0_ordersDecidedBy_30 rfl ?_
          refine z_iload_n dX0_ordersDecidedBy_31 rfl ?_
          refine z_iconst (v := 1) dX0_ordersDecidedBy_32 (by decide) ?_
          refine z_iload_n dX0_ordersDecidedBy_33 rfl ?_
          refine z_ishl dX0_ordersDecidedBy_34 ?_
          refine z_ior dX0_ordersDecidedBy_35 ?_
          obtain ⟨r12, S11, k13, hf⟩ := zb_some hf
          refine z_callVi dX0_ordersDecidedBy_36 tM_0_60 mt_6 (Nat.le_of_ble_eq_true rfl) rfl rfl (z_recv hE dc_35 rfl) rfl (ia_oks_le hn1 rfl) (Nat.le_of_ble_eq_true rfl) (w_X0_canOpen hn1 hn2 (d + 0) hE k13) (fun h hE => ?_)
          by_cases c14 : r12 = 0
          · have hf := zif_t hf c14
            refine z_if_eq_t (tgt := 69) dX0_ordersDecidedBy_39 (by decide) c14 ?_
            exact zW.sub (hJ3 x2 S11 _ hE hf) [0, 1, 2, 3] rfl rfl rfl rfl
          · have hf := zif_f hf c14
            refine z_if_eq_f (tgt := 69) dX0_ordersDecidedBy_39 (by decide) c14 ?_
            refine z_iload_n dX0_ordersDecidedBy_42 rfl ?_
            obtain ⟨r16, S15, k17, hf⟩ := zb_some hf
            refine z_callSi dX0_ordersDecidedBy_43 tM_0_64 (by decide) mt_903000 (Nat.le_of_ble_eq_true rfl) rfl rfl (ia_oks_le hn1 rfl) (Nat.le_of_ble_eq_true rfl) (w_J6_bitCount_0f7a4 hn1 hn2 (d + 1) hE k17) (fun h hE => ?_)
            refine z_istore (lv' := [(4, .int r16), (0, .ref 35), (1, .int i1), (2, .int x2), (3, .int x3)]) dX0_ordersDecidedBy_46 (by decide) rfl ?_
            refine z_iload_n dX0_ordersDecidedBy_48 rfl ?_
            refine z_iload dX0_ordersDecidedBy_49 rfl ?_
            obtain ⟨r19, S18, k20, hf⟩ := zb_some hf
            refine z_callSi dX0_ordersDecidedBy_51 tM_0_69 (by decide) mt_8 (Nat.le_of_ble_eq_true rfl) rfl rfl (ia_oks_le hn1 rfl) (Nat.le_of_ble_eq_true rfl) (w_X0_factorial hn1 hn2 (d + 1) hE k20) (fun h hE => ?_)
            refine z_aload_n dX0_ordersDecidedBy_54 rfl ?_
            refine z_getI dX0_ordersDecidedBy_55 tF_0_26 hE dc_35 rfl rfl ?_
            refine z_iload dX0_ordersDecidedBy_58 rfl ?_
            refine z_isub dX0_ordersDecidedBy_60 ?_
            refine z_iconst (v := 1) dX0_ordersDecidedBy_61 (by decide) ?_
            refine z_isub dX0_ordersDecidedBy_62 ?_
            obtain ⟨r22, S21, k23, hf⟩ := zb_some hf
            refine z_callSi dX0_ordersDecidedBy_63 tM_0_69 (by decide) mt_8 (Nat.le_of_ble_eq_true rfl) rfl rfl (ia_oks_le hn1 rfl) (Nat.le_of_ble_eq_true rfl) (w_X0_factorial hn1 hn2 (d + 1) hE k23) (fun h hE => ?_)
            refine z_imul dX0_ordersDecidedBy_66 ?_
            refine z_iadd dX0_ordersDecidedBy_67 ?_
            obtain ⟨y24, ey24, hf⟩ := zl_some hf
            refine z_topi ey24 ?_
            refine z_istore_n (lv' := [(2, .int y24), (4, .int r16), (0, .ref 35), (1, .int i1), (3, .int x3)]) dX0_ordersDecidedBy_68 (by decide) rfl ?_
            exact zW.sub (hJ3 y24 S21 _ hE hf) [2, 3, 0, 4] rfl rfl rfl rfl
theorem w_X0_ordersDecidedBy {L : Nat} {xs : Nat → Int32} {fm : Bool} {h0 : Nat → va_E} {t : Nat × Nat × Nat} (hn1 : 64 ≤ t.1) (hn2 : t.1 ≤ 1000000) (d : Nat) {h : Nat → va_E} {S : zS} (hE : zE (zDc t.1) h0 S (h, t)) {v1 : Int32} {R : Int32 × zS} (hf : f_X0_ordersDecidedBy v1 S = some R) : zC (ia_P0 L xs fm) (d + 3) 7 [.ref 35, .int v1] (h, t) (zQi (zDc t.1) h0 t R) := by
  refine zC_of mt_7 nn_7 (Nat.le_of_ble_eq_true rfl) ?_
  refine zW_lv (lv' := [(0, .ref 35), (1, .int v1)]) rfl ?_
  unfold f_X0_ordersDecidedBy at hf
  refine z_iconst (v := 0) dX0_ordersDecidedBy_0 (by decide) ?_
  refine z_istore_n (lv' := [(2, .int 0), (0, .ref 35), (1, .int v1)]) dX0_ordersDecidedBy_1 (by decide) rfl ?_
  refine z_iconst (v := 0) dX0_ordersDecidedBy_2 (by decide) ?_
  refine z_istore_n (lv' := [(3, .int 0), (2, .int 0), (0, .ref 35), (1, .int v1)]) dX0_ordersDecidedBy_3 (by decide) rfl ?_
  refine zW.sub (w_X0_ordersDecidedBy_L4 hn1 hn2 d (fun q26 q27 S25 h hE hf => ?_) zN 0 0 S h hE hf) [2, 3, 1, 0] rfl rfl rfl rfl
  try dsimp only at hf
  refine z_iload_n dX0_ordersDecidedBy_75 rfl ?_
  have e_ := Option.some.inj hf
  subst e_
  exact z_ireturn dX0_ordersDecidedBy_76 rfl ⟨h, rfl, rfl, hE⟩
def f_X11_share (v1 : Int32) (S : zS) : Option (Int32 × zS) :=
zb (f_X11_isHand v1 S) fun r2 S1 =>
if r2 = 0 then
some ((-1), S1)
else
zb (f_X11_lidIsShut S1) fun r6 S5 =>
if ¬ r6 = 0 then
zb (f_X0_gather_17 S5) fun _ S9 =>
zb (f_X0_ordersDecidedBy v1 S9) fun r13 S12 =>
some (r13, S12)
else
some ((-1), S5)
theorem w_X11_share {L : Nat} {xs : Nat → Int32} {fm : Bool} {h0 : Nat → va_E} {t : Nat × Nat × Nat} (hn1 : 64 ≤ t.1) (hn2 : t.1 ≤ 1000000) (d : Nat) {h : Nat → va_E} {S : zS} (hE : zE (zDc t.1) h0 S (h, t)) {v1 : Int32} {R : Int32 × zS} (hf : f_X11_share v1 S = some R) : zC (ia_P0 L xs fm) (d + 5) 11035 [.ref 0, .int v1] (h, t) (zQi (zDc t.1) h0 t R) := by
  refine zC_of mt_11035 nn_11035 (Nat.le_of_ble_eq_true rfl) ?_
  refine zW_lv (lv' := [(0, .ref 0), (1, .int v1)]) rfl ?_
  unfold f_X11_share at hf
  refine z_aload_n dX11_share_0 rfl ?_
  refine z_iload_n dX11_share_1 rfl ?_
  obtain ⟨r2, S1, k3, hf⟩ := zb_some hf
  refine z_callVi dX11_share_2 tM_11_196 mt_11009 (Nat.le_of_ble_eq_true rfl) rfl rfl (z_recv hE dc_0 rfl) rfl (ia_oks_le hn1 rfl) (Nat.le_of_ble_eq_true rfl) (w_X11_isHand hn1 hn2 (d + 3) hE k3) (fun h hE => ?_)
  by_cases c4 : r2 = 0
  · have hf := zif_t hf c4
    refine z_if_eq_t (tgt := 15) dX11_share_5 (by decide) c4 ?_
    refine z_iconst (v := (-1)) dX11_share_15 (by decide) ?_
    have e_ := Option.some.inj hf
    subst e_
    exact z_ireturn dX11_share_16 rfl ⟨h, rfl, rfl, hE⟩
  · have hf := zif_f hf c4
    refine z_if_eq_f (tgt := 15) dX11_share_5 (by decide) c4 ?_
    refine z_aload_n dX11_share_8 rfl ?_
    obtain ⟨r6, S5, k7, hf⟩ := zb_some hf
    refine z_callVi dX11_share_9 tM_11_223 mt_11019 (Nat.le_of_ble_eq_true rfl) rfl rfl (z_recv hE dc_0 rfl) rfl (ia_oks_le hn1 rfl) (Nat.le_of_ble_eq_true rfl) (w_X11_lidIsShut hn1 hn2 (d + 1) hE k7) (fun h hE => ?_)
    by_cases c8 : ¬ r6 = 0
    · have hf := zif_t hf c8
      refine z_if_ne_t (tgt := 17) dX11_share_12 (by decide) c8 ?_
      refine z_aload_n dX11_share_17 rfl ?_
      refine z_getC dX11_share_18 tF_11_82 hE dc_0 rfl rfl ?_
      refine z_aload_n dX11_share_21 rfl ?_
      refine z_getC dX11_share_22 tF_11_58 hE dc_0 rfl rfl ?_
      obtain ⟨r10, S9, k11, hf⟩ := zb_some hf
      refine z_callVv dX11_share_25 tM_11_284 mt_1 (Nat.le_of_ble_eq_true rfl) rfl rfl (z_recv hE dc_35 rfl) rfl (ia_oks_le hn1 rfl) (Nat.le_of_ble_eq_true rfl) (w_X0_gather_17 hn1 hn2 (d + 0) hE k11) (fun h hE => ?_)
      refine z_aload_n dX11_share_28 rfl ?_
      refine z_getC dX11_share_29 tF_11_82 hE dc_0 rfl rfl ?_
      refine z_iload_n dX11_share_32 rfl ?_
      obtain ⟨r13, S12, k14, hf⟩ := zb_some hf
      refine z_callVi dX11_share_33 tM_11_307 mt_7 (Nat.le_of_ble_eq_true rfl) rfl rfl (z_recv hE dc_35 rfl) rfl (ia_oks_le hn1 rfl) (Nat.le_of_ble_eq_true rfl) (w_X0_ordersDecidedBy hn1 hn2 (d + 1) hE k14) (fun h hE => ?_)
      have e_ := Option.some.inj hf
      subst e_
      exact z_ireturn dX11_share_36 rfl ⟨h, rfl, rfl, hE⟩
    · have hf := zif_f hf c8
      refine z_if_ne_f (tgt := 17) dX11_share_12 (by decide) c8 ?_
      refine z_iconst (v := (-1)) dX11_share_15 (by decide) ?_
      have e_ := Option.some.inj hf
      subst e_
      exact z_ireturn dX11_share_16 rfl ⟨h, rfl, rfl, hE⟩
def f_X7_wouldOpen (o : Nat) (v1 : Int32) (v2 : Int32) (S : zS) : Option (Int32 × zS) :=
zb (f_X7_onTable o S) fun r2 S1 =>
zb (f_X7_gripOn o v1 v2 r2 S1) fun r5 S4 =>
zb (f_X7_onTable o S4) fun r8 S7 =>
zb (f_X7_hold o r8 S7) fun r11 S10 =>
if r5 < r11 then
some (0, S10)
else
some (1, S10)
theorem w_X7_wouldOpen {L : Nat} {xs : Nat → Int32} {fm : Bool} {h0 : Nat → va_E} {t : Nat × Nat × Nat} (hn1 : 64 ≤ t.1) (hn2 : t.1 ≤ 1000000) (d : Nat) {o : Nat} (ho_o : zSc t.1 o) {h : Nat → va_E} {S : zS} (hE : zE (zDc t.1) h0 S (h, t)) {v1 : Int32} {v2 : Int32} {R : Int32 × zS} (hf : f_X7_wouldOpen o v1 v2 S = some R) : zC (ia_P0 L xs fm) (d + 4) 7026 [.ref o, .int v1, .int v2] (h, t) (zQi (zDc t.1) h0 t R) := by
  refine zC_of mt_7026 nn_7026 (Nat.le_of_ble_eq_true rfl) ?_
  refine zW_lv (lv' := [(0, .ref o), (1, .int v1), (2, .int v2)]) rfl ?_
  unfold f_X7_wouldOpen at hf
  refine z_aload_n dX7_wouldOpen_0 rfl ?_
  refine z_iload_n dX7_wouldOpen_1 rfl ?_
  refine z_iload_n dX7_wouldOpen_2 rfl ?_
  refine z_aload_n dX7_wouldOpen_3 rfl ?_
  obtain ⟨r2, S1, k3, hf⟩ := zb_some hf
  refine z_callVi dX7_wouldOpen_4 tM_7_90 mt_7010 (Nat.le_of_ble_eq_true rfl) rfl rfl (z_recv hE ho_o.1 rfl) rfl (by have q0 : o < t.1 := Nat.lt_of_lt_of_le ho_o.2.2 (Nat.le_trans (by decide) hn1); simp [ia_oks, ia_okv, q0]) (Nat.le_of_ble_eq_true rfl) (w_X7_onTable hn1 hn2 (d + 2) ho_o hE k3) (fun h hE => ?_)
  obtain ⟨r5, S4, k6, hf⟩ := zb_some hf
  refine z_callVi dX7_wouldOpen_7 tM_7_93 mt_7006 (Nat.le_of_ble_eq_true rfl) rfl rfl (z_recv hE ho_o.1 rfl) rfl (by have q0 : o < t.1 := Nat.lt_of_lt_of_le ho_o.2.2 (Nat.le_trans (by decide) hn1); simp [ia_oks, ia_okv, q0]) (Nat.le_of_ble_eq_true rfl) (w_X7_gripOn hn1 hn2 (d + 0) ho_o hE k6) (fun h hE => ?_)
  refine z_aload_n dX7_wouldOpen_10 rfl ?_
  refine z_aload_n dX7_wouldOpen_11 rfl ?_
  obtain ⟨r8, S7, k9, hf⟩ := zb_some hf
  refine z_callVi dX7_wouldOpen_12 tM_7_90 mt_7010 (Nat.le_of_ble_eq_true rfl) rfl rfl (z_recv hE ho_o.1 rfl) rfl (by have q0 : o < t.1 := Nat.lt_of_lt_of_le ho_o.2.2 (Nat.le_trans (by decide) hn1); simp [ia_oks, ia_okv, q0]) (Nat.le_of_ble_eq_true rfl) (w_X7_onTable hn1 hn2 (d + 2) ho_o hE k9) (fun h hE => ?_)
  obtain ⟨r11, S10, k12, hf⟩ := zb_some hf
  refine z_callVi dX7_wouldOpen_15 tM_7_96 mt_7009 (Nat.le_of_ble_eq_true rfl) rfl rfl (z_recv hE ho_o.1 rfl) rfl (by have q0 : o < t.1 := Nat.lt_of_lt_of_le ho_o.2.2 (Nat.le_trans (by decide) hn1); simp [ia_oks, ia_okv, q0]) (Nat.le_of_ble_eq_true rfl) (w_X7_hold hn1 hn2 (d + 1) ho_o hE k12) (fun h hE => ?_)
  by_cases c13 : r5 < r11
  · have hf := zif_t hf c13
    refine z_icmp_lt_t (tgt := 25) dX7_wouldOpen_18 (by decide) c13 ?_
    refine z_iconst (v := 0) dX7_wouldOpen_25 (by decide) ?_
    have e_ := Option.some.inj hf
    subst e_
    exact z_zreturn dX7_wouldOpen_26 rfl (by decide) ⟨h, rfl, rfl, hE⟩
  · have hf := zif_f hf c13
    refine z_icmp_lt_f (tgt := 25) dX7_wouldOpen_18 (by decide) c13 ?_
    refine z_iconst (v := 1) dX7_wouldOpen_21 (by decide) ?_
    refine z_goto (tgt := 26) dX7_wouldOpen_22 (by decide) ?_
    have e_ := Option.some.inj hf
    subst e_
    exact z_zreturn dX7_wouldOpen_26 rfl (by decide) ⟨h, rfl, rfl, hE⟩
def f_X11_cheapest_L43 (ex : Int32 → Int32 → Int32 → zS → Option (Int32 × zS)) (i1 : Int32) : Nat → Int32 → Int32 → Int32 → zS → Option (Int32 × zS)
  | 0, _, _, _, _ => none
  | k + 1, x2, x3, x4, S =>
    if (S.1 12 2) ≤ x4 then
    ex x2 x3 x4 S
    else
    zb (f_X10_item 2 x4 1 S) fun r15 S14 =>
    zl (fun (q20 : Int32) (q21 : Int32) (S19 : zS) =>
    zl (x4 + 1) fun (y22 : Int32) =>
    f_X11_cheapest_L43 ex i1 k q20 q21 y22 S19) fun J18 =>
    if x3 ≤ r15 then
    J18 x2 x3 S14
    else
    zb (f_X7_wouldOpen 17 i1 x4 S14) fun r24 S23 =>
    if r24 = 0 then
    J18 x2 x3 S23
    else
    J18 x4 r15 S23
def f_X11_cheapest (v1 : Int32) (S : zS) : Option (Int32 × zS) :=
zb (f_X11_isHand v1 S) fun r2 S1 =>
if r2 = 0 then
some ((-1000000), S1)
else
zb (f_X11_lidIsShut S1) fun r6 S5 =>
if ¬ r6 = 0 then
zb (f_X7_wouldOpen 17 v1 (-1) S5) fun r10 S9 =>
if r10 = 0 then
f_X11_cheapest_L43 (fun (q28 : Int32) (q29 : Int32) (q30 : Int32) (S27 : zS) =>
some (q28, S27)) v1 zN (-1000000) 100 0 S9
else
some ((-1), S9)
else
some ((-1000000), S5)
theorem w_X11_cheapest_L43 {L : Nat} {xs : Nat → Int32} {fm : Bool} {h0 : Nat → va_E} {t : Nat × Nat × Nat} (hn1 : 64 ≤ t.1) (hn2 : t.1 ≤ 1000000) (d : Nat) {ex : Int32 → Int32 → Int32 → zS → Option (Int32 × zS)} {i1 : Int32} {R : Int32 × zS} (hex : ∀ (x2 : Int32) (x3 : Int32) (x4 : Int32) (S : zS) (h : Nat → va_E), zE (zDc t.1) h0 S (h, t) → ex x2 x3 x4 S = some R → zW (ia_P0 L xs fm) ia_nx (d + 4) 11 false cX11_cheapest 6 (some .int) 101 [(0, .ref 0), (1, .int i1), (2, .int x2), (3, .int x3), (4, .int x4)] [] (h, t) (zQi (zDc t.1) h0 t R)) : ∀ (k : Nat) (x2 : Int32) (x3 : Int32) (x4 : Int32) (S : zS) (h : Nat → va_E), zE (zDc t.1) h0 S (h, t) → f_X11_cheapest_L43 ex i1 k x2 x3 x4 S = some R → zW (ia_P0 L xs fm) ia_nx (d + 4) 11 false cX11_cheapest 6 (some .int) 43 [(0, .ref 0), (1, .int i1), (2, .int x2), (3, .int x3), (4, .int x4)] [] (h, t) (zQi (zDc t.1) h0 t R) := by
  intro k
  induction k with
  | zero => intro x2 x3 x4 S h hE hf; cases hf
  | succ k ih =>
    intro x2 x3 x4 S h hE hf
    unfold f_X11_cheapest_L43 at hf
    refine z_iload dX11_cheapest_43 rfl ?_
    refine z_aload_n dX11_cheapest_45 rfl ?_
    refine z_getC dX11_cheapest_46 tF_11_42 hE dc_0 rfl rfl ?_
    refine z_getC dX11_cheapest_49 tF_11_153 hE dc_11 rfl rfl ?_
    refine z_iconst (v := 2) dX11_cheapest_52 (by decide) ?_
    refine z_ialoadL (i := 2) dX11_cheapest_53 hE dc_12 (by decide) (by decide) ?_
    by_cases c13 : (S.1 12 2) ≤ x4
    · have hf := zif_t hf c13
      refine z_icmp_ge_t (tgt := 101) dX11_cheapest_54 (by decide) c13 ?_
      exact zW.sub (hex x2 x3 x4 S _ hE hf) [0, 1, 2, 3, 4] rfl rfl rfl rfl
    · have hf := zif_f hf c13
      refine z_icmp_ge_f (tgt := 101) dX11_cheapest_54 (by decide) c13 ?_
      refine z_aload_n dX11_cheapest_57 rfl ?_
      refine z_getC dX11_cheapest_58 tF_11_42 hE dc_0 rfl rfl ?_
      refine z_iconst (v := 2) dX11_cheapest_61 (by decide) ?_
      refine z_iload dX11_cheapest_62 rfl ?_
      refine z_iconst (v := 1) dX11_cheapest_64 (by decide) ?_
      obtain ⟨r15, S14, k16, hf⟩ := zb_some hf
      refine z_callVi dX11_cheapest_65 tM_11_192 mt_10004 (Nat.le_of_ble_eq_true rfl) rfl rfl (z_recv hE dc_11 rfl) rfl (ia_oks_le hn1 rfl) (Nat.le_of_ble_eq_true rfl) (w_X10_item hn1 hn2 (d + 2) hE k16) (fun h hE => ?_)
      refine z_istore (lv' := [(5, .int r15), (0, .ref 0), (1, .int i1), (2, .int x2), (3, .int x3), (4, .int x4)]) dX11_cheapest_68 (by decide) rfl ?_
      refine z_iload dX11_cheapest_70 rfl ?_
      refine z_iload_n dX11_cheapest_72 rfl ?_
      obtain ⟨J18, eJ18, hf⟩ := zl_some hf
      have hJ18 : ∀ (q20 : Int32) (q21 : Int32) (S19 : zS) (h : Nat → va_E), zE (zDc t.1) h0 S19 (h, t) → J18 q20 q21 S19 = some R → zW (ia_P0 L xs fm) ia_nx (d + 4) 11 false cX11_cheapest 6 (some .int) 95 [(0, .ref 0), (1, .int i1), (2, .int q20), (3, .int q21), (4, .int x4), (5, .int r15)] [] (h, t) (zQi (zDc t.1) h0 t R) := by
        intro q20 q21 S19 h hE hf
        rw [eJ18] at hf
        obtain ⟨y22, ey22, hf⟩ := zl_some hf
        refine z_iincY (v := 1) (y := y22) (lv' := [(4, .int y22), (0, .ref 0), (1, .int i1), (2, .int q20), (3, .int q21), (5, .int r15)]) dX11_cheapest_95 rfl (by decide) (by decide) ey22 rfl ?_
        refine z_goto (tgt := 43) dX11_cheapest_98 (by decide) ?_
        exact zW.sub (ih q20 q21 y22 S19 _ hE hf) [1, 2, 3, 4, 0] rfl rfl rfl rfl
      by_cases c17 : x3 ≤ r15
      · have hf := zif_t hf c17
        refine z_icmp_ge_t (tgt := 95) dX11_cheapest_73 (by decide) c17 ?_
        exact zW.sub (hJ18 x2 x3 S14 _ hE hf) [1, 2, 3, 4, 5, 0] rfl rfl rfl rfl
      · have hf := zif_f hf c17
        refine z_icmp_ge_f (tgt := 95) dX11_cheapest_73 (by decide) c17 ?_
        refine z_aload_n dX11_cheapest_76 rfl ?_
        refine z_getC dX11_cheapest_77 tF_11_58 hE dc_0 rfl rfl ?_
        refine z_iload_n dX11_cheapest_80 rfl ?_
        refine z_iload dX11_cheapest_81 rfl ?_
        obtain ⟨r24, S23, k25, hf⟩ := zb_some hf
        refine z_callVi dX11_cheapest_83 tM_11_310 mt_7026 (Nat.le_of_ble_eq_true rfl) rfl rfl (z_recv hE dc_17 rfl) rfl (ia_oks_le hn1 rfl) (Nat.le_of_ble_eq_true rfl) (w_X7_wouldOpen hn1 hn2 (d + 0) sc_17 hE k25) (fun h hE => ?_)
        by_cases c26 : r24 = 0
        · have hf := zif_t hf c26
          refine z_if_eq_t (tgt := 95) dX11_cheapest_86 (by decide) c26 ?_
          exact zW.sub (hJ18 x2 x3 S23 _ hE hf) [1, 2, 3, 4, 5, 0] rfl rfl rfl rfl
        · have hf := zif_f hf c26
          refine z_if_eq_f (tgt := 95) dX11_cheapest_86 (by decide) c26 ?_
          refine z_iload dX11_cheapest_89 rfl ?_
          refine z_istore_n (lv' := [(2, .int x4), (5, .int r15), (0, .ref 0), (1, .int i1), (3, .int x3), (4, .int x4)]) dX11_cheapest_91 (by decide) rfl ?_
          refine z_iload dX11_cheapest_92 rfl ?_
          refine z_istore_n (lv' := [(3, .int r15), (2, .int x4), (5, .int r15), (0, .ref 0), (1, .int i1), (4, .int x4)]) dX11_cheapest_94 (by decide) rfl ?_
          exact zW.sub (hJ18 x4 r15 S23 _ hE hf) [3, 4, 1, 0, 5, 2] rfl rfl rfl rfl
theorem w_X11_cheapest {L : Nat} {xs : Nat → Int32} {fm : Bool} {h0 : Nat → va_E} {t : Nat × Nat × Nat} (hn1 : 64 ≤ t.1) (hn2 : t.1 ≤ 1000000) (d : Nat) {h : Nat → va_E} {S : zS} (hE : zE (zDc t.1) h0 S (h, t)) {v1 : Int32} {R : Int32 × zS} (hf : f_X11_cheapest v1 S = some R) : zC (ia_P0 L xs fm) (d + 5) 11036 [.ref 0, .int v1] (h, t) (zQi (zDc t.1) h0 t R) := by
  refine zC_of mt_11036 nn_11036 (Nat.le_of_ble_eq_true rfl) ?_
  refine zW_lv (lv' := [(0, .ref 0), (1, .int v1)]) rfl ?_
  unfold f_X11_cheapest at hf
  refine z_aload_n dX11_cheapest_0 rfl ?_
  refine z_iload_n dX11_cheapest_1 rfl ?_
  obtain ⟨r2, S1, k3, hf⟩ := zb_some hf
  refine z_callVi dX11_cheapest_2 tM_11_196 mt_11009 (Nat.le_of_ble_eq_true rfl) rfl rfl (z_recv hE dc_0 rfl) rfl (ia_oks_le hn1 rfl) (Nat.le_of_ble_eq_true rfl) (w_X11_isHand hn1 hn2 (d + 3) hE k3) (fun h hE => ?_)
  by_cases c4 : r2 = 0
  · have hf := zif_t hf c4
    refine z_if_eq_t (tgt := 15) dX11_cheapest_5 (by decide) c4 ?_
    refine z_ldcw dX11_cheapest_15 tK_11_275 ?_
    have e_ := Option.some.inj hf
    subst e_
    exact z_ireturn dX11_cheapest_18 rfl ⟨h, rfl, rfl, hE⟩
  · have hf := zif_f hf c4
    refine z_if_eq_f (tgt := 15) dX11_cheapest_5 (by decide) c4 ?_
    refine z_aload_n dX11_cheapest_8 rfl ?_
    obtain ⟨r6, S5, k7, hf⟩ := zb_some hf
    refine z_callVi dX11_cheapest_9 tM_11_223 mt_11019 (Nat.le_of_ble_eq_true rfl) rfl rfl (z_recv hE dc_0 rfl) rfl (ia_oks_le hn1 rfl) (Nat.le_of_ble_eq_true rfl) (w_X11_lidIsShut hn1 hn2 (d + 1) hE k7) (fun h hE => ?_)
    by_cases c8 : ¬ r6 = 0
    · have hf := zif_t hf c8
      refine z_if_ne_t (tgt := 19) dX11_cheapest_12 (by decide) c8 ?_
      refine z_aload_n dX11_cheapest_19 rfl ?_
      refine z_getC dX11_cheapest_20 tF_11_58 hE dc_0 rfl rfl ?_
      refine z_iload_n dX11_cheapest_23 rfl ?_
      refine z_iconst (v := (-1)) dX11_cheapest_24 (by decide) ?_
      obtain ⟨r10, S9, k11, hf⟩ := zb_some hf
      refine z_callVi dX11_cheapest_25 tM_11_310 mt_7026 (Nat.le_of_ble_eq_true rfl) rfl rfl (z_recv hE dc_17 rfl) rfl (ia_oks_le hn1 rfl) (Nat.le_of_ble_eq_true rfl) (w_X7_wouldOpen hn1 hn2 (d + 0) sc_17 hE k11) (fun h hE => ?_)
      by_cases c12 : r10 = 0
      · have hf := zif_t hf c12
        refine z_if_eq_t (tgt := 33) dX11_cheapest_28 (by decide) c12 ?_
        refine z_ldcw dX11_cheapest_33 tK_11_275 ?_
        refine z_istore_n (lv' := [(2, .int (-1000000)), (0, .ref 0), (1, .int v1)]) dX11_cheapest_36 (by decide) rfl ?_
        refine z_bipush (v := 100) dX11_cheapest_37 (by decide) ?_
        refine z_istore_n (lv' := [(3, .int 100), (2, .int (-1000000)), (0, .ref 0), (1, .int v1)]) dX11_cheapest_39 (by decide) rfl ?_
        refine z_iconst (v := 0) dX11_cheapest_40 (by decide) ?_
        refine z_istore (lv' := [(4, .int 0), (3, .int 100), (2, .int (-1000000)), (0, .ref 0), (1, .int v1)]) dX11_cheapest_41 (by decide) rfl ?_
        refine zW.sub (w_X11_cheapest_L43 hn1 hn2 d (fun q28 q29 q30 S27 h hE hf => ?_) zN (-1000000) 100 0 S9 h hE hf) [3, 4, 2, 1, 0] rfl rfl rfl rfl
        try dsimp only at hf
        refine z_iload_n dX11_cheapest_101 rfl ?_
        have e_ := Option.some.inj hf
        subst e_
        exact z_ireturn dX11_cheapest_102 rfl ⟨h, rfl, rfl, hE⟩
      · have hf := zif_f hf c12
        refine z_if_eq_f (tgt := 33) dX11_cheapest_28 (by decide) c12 ?_
        refine z_iconst (v := (-1)) dX11_cheapest_31 (by decide) ?_
        have e_ := Option.some.inj hf
        subst e_
        exact z_ireturn dX11_cheapest_32 rfl ⟨h, rfl, rfl, hE⟩
    · have hf := zif_f hf c8
      refine z_if_ne_f (tgt := 19) dX11_cheapest_12 (by decide) c8 ?_
      refine z_ldcw dX11_cheapest_15 tK_11_275 ?_
      have e_ := Option.some.inj hf
      subst e_
      exact z_ireturn dX11_cheapest_18 rfl ⟨h, rfl, rfl, hE⟩
def f_X11_safe  (S : zS) : Option (Int32 × zS) :=
zb (f_X11_lidIsShut S) fun r2 S1 =>
if ¬ r2 = 0 then
zb (f_X7_onTable 17 S1) fun r6 S5 =>
zb (f_X10_item 0 r6 5 S5) fun r9 S8 =>
zb (f_X7_lid 17 3 S8) fun r12 S11 =>
zl (r9 - r12) fun (y14 : Int32) =>
some (if 0 < (if y14 < 60 then y14 else 60) then (if y14 < 60 then y14 else 60) else 0, S11)
else
some ((-1), S1)
theorem w_X11_safe {L : Nat} {xs : Nat → Int32} {fm : Bool} {h0 : Nat → va_E} {t : Nat × Nat × Nat} (hn1 : 64 ≤ t.1) (hn2 : t.1 ≤ 1000000) (d : Nat) {h : Nat → va_E} {S : zS} (hE : zE (zDc t.1) h0 S (h, t)) {R : Int32 × zS} (hf : f_X11_safe  S = some R) : zC (ia_P0 L xs fm) (d + 4) 11037 [.ref 0] (h, t) (zQi (zDc t.1) h0 t R) := by
  refine zC_of mt_11037 nn_11037 (Nat.le_of_ble_eq_true rfl) ?_
  refine zW_lv (lv' := [(0, .ref 0)]) rfl ?_
  unfold f_X11_safe at hf
  refine z_aload_n dX11_safe_0 rfl ?_
  obtain ⟨r2, S1, k3, hf⟩ := zb_some hf
  refine z_callVi dX11_safe_1 tM_11_223 mt_11019 (Nat.le_of_ble_eq_true rfl) rfl rfl (z_recv hE dc_0 rfl) rfl (ia_oks_le hn1 rfl) (Nat.le_of_ble_eq_true rfl) (w_X11_lidIsShut hn1 hn2 (d + 0) hE k3) (fun h hE => ?_)
  by_cases c4 : ¬ r2 = 0
  · have hf := zif_t hf c4
    refine z_if_ne_t (tgt := 9) dX11_safe_4 (by decide) c4 ?_
    refine z_aload_n dX11_safe_9 rfl ?_
    refine z_getC dX11_safe_10 tF_11_42 hE dc_0 rfl rfl ?_
    refine z_iconst (v := 0) dX11_safe_13 (by decide) ?_
    refine z_aload_n dX11_safe_14 rfl ?_
    refine z_getC dX11_safe_15 tF_11_58 hE dc_0 rfl rfl ?_
    obtain ⟨r6, S5, k7, hf⟩ := zb_some hf
    refine z_callVi dX11_safe_18 tM_11_234 mt_7010 (Nat.le_of_ble_eq_true rfl) rfl rfl (z_recv hE dc_17 rfl) rfl (ia_oks_le hn1 rfl) (Nat.le_of_ble_eq_true rfl) (w_X7_onTable hn1 hn2 (d + 2) sc_17 hE k7) (fun h hE => ?_)
    refine z_iconst (v := 5) dX11_safe_21 (by decide) ?_
    obtain ⟨r9, S8, k10, hf⟩ := zb_some hf
    refine z_callVi dX11_safe_22 tM_11_192 mt_10004 (Nat.le_of_ble_eq_true rfl) rfl rfl (z_recv hE dc_11 rfl) rfl (ia_oks_le hn1 rfl) (Nat.le_of_ble_eq_true rfl) (w_X10_item hn1 hn2 (d + 1) hE k10) (fun h hE => ?_)
    refine z_aload_n dX11_safe_25 rfl ?_
    refine z_getC dX11_safe_26 tF_11_58 hE dc_0 rfl rfl ?_
    refine z_iconst (v := 3) dX11_safe_29 (by decide) ?_
    obtain ⟨r12, S11, k13, hf⟩ := zb_some hf
    refine z_callVi dX11_safe_30 tM_11_250 mt_7013 (Nat.le_of_ble_eq_true rfl) rfl rfl (z_recv hE dc_17 rfl) rfl (ia_oks_le hn1 rfl) (Nat.le_of_ble_eq_true rfl) (w_X7_lid hn1 hn2 (d + 2) sc_17 hE k13) (fun h hE => ?_)
    refine z_isub dX11_safe_33 ?_
    obtain ⟨y14, ey14, hf⟩ := zl_some hf
    refine z_topi ey14 ?_
    refine z_istore_n (lv' := [(1, .int y14), (0, .ref 0)]) dX11_safe_34 (by decide) rfl ?_
    refine z_iconst (v := 0) dX11_safe_35 (by decide) ?_
    refine z_bipush (v := 60) dX11_safe_36 (by decide) ?_
    refine z_iload_n dX11_safe_38 rfl ?_
    refine z_mmin dX11_safe_39 tM_11_314 (Nat.le_of_ble_eq_true rfl) ?_
    refine z_mmax dX11_safe_42 tM_11_218 (Nat.le_of_ble_eq_true rfl) ?_
    have e_ := Option.some.inj hf
    subst e_
    exact z_ireturn dX11_safe_45 rfl ⟨h, rfl, rfl, hE⟩
  · have hf := zif_f hf c4
    refine z_if_ne_f (tgt := 9) dX11_safe_4 (by decide) c4 ?_
    refine z_iconst (v := (-1)) dX11_safe_7 (by decide) ?_
    have e_ := Option.some.inj hf
    subst e_
    exact z_ireturn dX11_safe_8 rfl ⟨h, rfl, rfl, hE⟩
def f_X11_enough_L27 (ex : Int32 → zS → Option (Int32 × zS)) (i1 : Int32) (i2 : Int32) : Nat → Int32 → zS → Option (Int32 × zS)
  | 0, _, _ => none
  | k + 1, x3, S =>
    if 60 < x3 then
    ex x3 S
    else
    zb (f_X7_take 19 17 S) fun _ S14 =>
    zb (f_X7_warm 19 x3 S14) fun _ S17 =>
    zb (f_X7_lid 19 6 S17) fun r21 S20 =>
    zl (fun (S25 : zS) =>
    zl (x3 + 1) fun (y26 : Int32) =>
    f_X11_enough_L27 ex i1 i2 k y26 S25) fun J24 =>
    if ¬ r21 = 0 then
    J24 S20
    else
    zb (f_X7_wouldOpen 19 i1 i2 S20) fun r28 S27 =>
    if r28 = 0 then
    J24 S27
    else
    some (x3, S27)
def f_X11_enough (v1 : Int32) (v2 : Int32) (S : zS) : Option (Int32 × zS) :=
zb (f_X11_isHand v1 S) fun r2 S1 =>
if r2 = 0 then
some ((-1), S1)
else
zb (f_X11_isTool v2 S1) fun r6 S5 =>
if r6 = 0 then
some ((-1), S5)
else
zb (f_X11_lidIsShut S5) fun r10 S9 =>
if ¬ r10 = 0 then
f_X11_enough_L27 (fun (q32 : Int32) (S31 : zS) =>
some ((-1), S31)) v1 v2 zN 0 S9
else
some ((-1), S9)
theorem w_X11_enough_L27 {L : Nat} {xs : Nat → Int32} {fm : Bool} {h0 : Nat → va_E} {t : Nat × Nat × Nat} (hn1 : 64 ≤ t.1) (hn2 : t.1 ≤ 1000000) (d : Nat) {ex : Int32 → zS → Option (Int32 × zS)} {i1 : Int32} {i2 : Int32} {R : Int32 × zS} (hex : ∀ (x3 : Int32) (S : zS) (h : Nat → va_E), zE (zDc t.1) h0 S (h, t) → ex x3 S = some R → zW (ia_P0 L xs fm) ia_nx (d + 4) 11 false cX11_enough 4 (some .int) 84 [(0, .ref 0), (1, .int i1), (2, .int i2), (3, .int x3)] [] (h, t) (zQi (zDc t.1) h0 t R)) : ∀ (k : Nat) (x3 : Int32) (S : zS) (h : Nat → va_E), zE (zDc t.1) h0 S (h, t) → f_X11_enough_L27 ex i1 i2 k x3 S = some R → zW (ia_P0 L xs fm) ia_nx (d + 4) 11 false cX11_enough 4 (some .int) 27 [(0, .ref 0), (1, .int i1), (2, .int i2), (3, .int x3)] [] (h, t) (zQi (zDc t.1) h0 t R) := by
  intro k
  induction k with
  | zero => intro x3 S h hE hf; cases hf
  | succ k ih =>
    intro x3 S h hE hf
    unfold f_X11_enough_L27 at hf
    refine z_iload_n dX11_enough_27 rfl ?_
    refine z_bipush (v := 60) dX11_enough_28 (by decide) ?_
    by_cases c13 : 60 < x3
    · have hf := zif_t hf c13
      refine z_icmp_gt_t (tgt := 84) dX11_enough_30 (by decide) c13 ?_
      exact zW.sub (hex x3 S _ hE hf) [0, 1, 2, 3] rfl rfl rfl rfl
    · have hf := zif_f hf c13
      refine z_icmp_gt_f (tgt := 84) dX11_enough_30 (by decide) c13 ?_
      refine z_aload_n dX11_enough_33 rfl ?_
      refine z_getC dX11_enough_34 tF_11_62 hE dc_0 rfl rfl ?_
      refine z_aload_n dX11_enough_37 rfl ?_
      refine z_getC dX11_enough_38 tF_11_58 hE dc_0 rfl rfl ?_
      obtain ⟨r15, S14, k16, hf⟩ := zb_some hf
      refine z_callVv dX11_enough_41 tM_11_317 mt_7024 (Nat.le_of_ble_eq_true rfl) rfl rfl (z_recv hE dc_19 rfl) rfl (ia_oks_le hn1 rfl) (Nat.le_of_ble_eq_true rfl) (w_X7_take hn1 hn2 (d + 3) sc_19 sc_17 hE k16) (fun h hE => ?_)
      refine z_aload_n dX11_enough_44 rfl ?_
      refine z_getC dX11_enough_45 tF_11_62 hE dc_0 rfl rfl ?_
      refine z_iload_n dX11_enough_48 rfl ?_
      obtain ⟨r18, S17, k19, hf⟩ := zb_some hf
      refine z_callVv dX11_enough_49 tM_11_253 mt_7018 (Nat.le_of_ble_eq_true rfl) rfl rfl (z_recv hE dc_19 rfl) rfl (ia_oks_le hn1 rfl) (Nat.le_of_ble_eq_true rfl) (w_X7_warm hn1 hn2 (d + 1) sc_19 hE k19) (fun h hE => ?_)
      refine z_aload_n dX11_enough_52 rfl ?_
      refine z_getC dX11_enough_53 tF_11_62 hE dc_0 rfl rfl ?_
      refine z_bipush (v := 6) dX11_enough_56 (by decide) ?_
      obtain ⟨r21, S20, k22, hf⟩ := zb_some hf
      refine z_callVi dX11_enough_58 tM_11_250 mt_7013 (Nat.le_of_ble_eq_true rfl) rfl rfl (z_recv hE dc_19 rfl) rfl (ia_oks_le hn1 rfl) (Nat.le_of_ble_eq_true rfl) (w_X7_lid hn1 hn2 (d + 3) sc_19 hE k22) (fun h hE => ?_)
      obtain ⟨J24, eJ24, hf⟩ := zl_some hf
      have hJ24 : ∀ (S25 : zS) (h : Nat → va_E), zE (zDc t.1) h0 S25 (h, t) → J24 S25 = some R → zW (ia_P0 L xs fm) ia_nx (d + 4) 11 false cX11_enough 4 (some .int) 78 [(0, .ref 0), (1, .int i1), (2, .int i2), (3, .int x3)] [] (h, t) (zQi (zDc t.1) h0 t R) := by
        intro S25 h hE hf
        rw [eJ24] at hf
        obtain ⟨y26, ey26, hf⟩ := zl_some hf
        refine z_iincY (v := 1) (y := y26) (lv' := [(3, .int y26), (0, .ref 0), (1, .int i1), (2, .int i2)]) dX11_enough_78 rfl (by decide) (by decide) ey26 rfl ?_
        refine z_goto (tgt := 27) dX11_enough_81 (by decide) ?_
        exact zW.sub (ih y26 S25 _ hE hf) [1, 2, 3, 0] rfl rfl rfl rfl
      by_cases c23 : ¬ r21 = 0
      · have hf := zif_t hf c23
        refine z_if_ne_t (tgt := 78) dX11_enough_61 (by decide) c23 ?_
        exact zW.sub (hJ24 S20 _ hE hf) [0, 1, 2, 3] rfl rfl rfl rfl
      · have hf := zif_f hf c23
        refine z_if_ne_f (tgt := 78) dX11_enough_61 (by decide) c23 ?_
        refine z_aload_n dX11_enough_64 rfl ?_
        refine z_getC dX11_enough_65 tF_11_62 hE dc_0 rfl rfl ?_
        refine z_iload_n dX11_enough_68 rfl ?_
        refine z_iload_n dX11_enough_69 rfl ?_
        obtain ⟨r28, S27, k29, hf⟩ := zb_some hf
        refine z_callVi dX11_enough_70 tM_11_310 mt_7026 (Nat.le_of_ble_eq_true rfl) rfl rfl (z_recv hE dc_19 rfl) rfl (ia_oks_le hn1 rfl) (Nat.le_of_ble_eq_true rfl) (w_X7_wouldOpen hn1 hn2 (d + 0) sc_19 hE k29) (fun h hE => ?_)
        by_cases c30 : r28 = 0
        · have hf := zif_t hf c30
          refine z_if_eq_t (tgt := 78) dX11_enough_73 (by decide) c30 ?_
          exact zW.sub (hJ24 S27 _ hE hf) [0, 1, 2, 3] rfl rfl rfl rfl
        · have hf := zif_f hf c30
          refine z_if_eq_f (tgt := 78) dX11_enough_73 (by decide) c30 ?_
          refine z_iload_n dX11_enough_76 rfl ?_
          have e_ := Option.some.inj hf
          subst e_
          exact z_ireturn dX11_enough_77 rfl ⟨h, rfl, rfl, hE⟩
theorem w_X11_enough {L : Nat} {xs : Nat → Int32} {fm : Bool} {h0 : Nat → va_E} {t : Nat × Nat × Nat} (hn1 : 64 ≤ t.1) (hn2 : t.1 ≤ 1000000) (d : Nat) {h : Nat → va_E} {S : zS} (hE : zE (zDc t.1) h0 S (h, t)) {v1 : Int32} {v2 : Int32} {R : Int32 × zS} (hf : f_X11_enough v1 v2 S = some R) : zC (ia_P0 L xs fm) (d + 5) 11038 [.ref 0, .int v1, .int v2] (h, t) (zQi (zDc t.1) h0 t R) := by
  refine zC_of mt_11038 nn_11038 (Nat.le_of_ble_eq_true rfl) ?_
  refine zW_lv (lv' := [(0, .ref 0), (1, .int v1), (2, .int v2)]) rfl ?_
  unfold f_X11_enough at hf
  refine z_aload_n dX11_enough_0 rfl ?_
  refine z_iload_n dX11_enough_1 rfl ?_
  obtain ⟨r2, S1, k3, hf⟩ := zb_some hf
  refine z_callVi dX11_enough_2 tM_11_196 mt_11009 (Nat.le_of_ble_eq_true rfl) rfl rfl (z_recv hE dc_0 rfl) rfl (ia_oks_le hn1 rfl) (Nat.le_of_ble_eq_true rfl) (w_X11_isHand hn1 hn2 (d + 3) hE k3) (fun h hE => ?_)
  by_cases c4 : r2 = 0
  · have hf := zif_t hf c4
    refine z_if_eq_t (tgt := 23) dX11_enough_5 (by decide) c4 ?_
    refine z_iconst (v := (-1)) dX11_enough_23 (by decide) ?_
    have e_ := Option.some.inj hf
    subst e_
    exact z_ireturn dX11_enough_24 rfl ⟨h, rfl, rfl, hE⟩
  · have hf := zif_f hf c4
    refine z_if_eq_f (tgt := 23) dX11_enough_5 (by decide) c4 ?_
    refine z_aload_n dX11_enough_8 rfl ?_
    refine z_iload_n dX11_enough_9 rfl ?_
    obtain ⟨r6, S5, k7, hf⟩ := zb_some hf
    refine z_callVi dX11_enough_10 tM_11_205 mt_11011 (Nat.le_of_ble_eq_true rfl) rfl rfl (z_recv hE dc_0 rfl) rfl (ia_oks_le hn1 rfl) (Nat.le_of_ble_eq_true rfl) (w_X11_isTool hn1 hn2 (d + 3) hE k7) (fun h hE => ?_)
    by_cases c8 : r6 = 0
    · have hf := zif_t hf c8
      refine z_if_eq_t (tgt := 23) dX11_enough_13 (by decide) c8 ?_
      refine z_iconst (v := (-1)) dX11_enough_23 (by decide) ?_
      have e_ := Option.some.inj hf
      subst e_
      exact z_ireturn dX11_enough_24 rfl ⟨h, rfl, rfl, hE⟩
    · have hf := zif_f hf c8
      refine z_if_eq_f (tgt := 23) dX11_enough_13 (by decide) c8 ?_
      refine z_aload_n dX11_enough_16 rfl ?_
      obtain ⟨r10, S9, k11, hf⟩ := zb_some hf
      refine z_callVi dX11_enough_17 tM_11_223 mt_11019 (Nat.le_of_ble_eq_true rfl) rfl rfl (z_recv hE dc_0 rfl) rfl (ia_oks_le hn1 rfl) (Nat.le_of_ble_eq_true rfl) (w_X11_lidIsShut hn1 hn2 (d + 1) hE k11) (fun h hE => ?_)
      by_cases c12 : ¬ r10 = 0
      · have hf := zif_t hf c12
        refine z_if_ne_t (tgt := 25) dX11_enough_20 (by decide) c12 ?_
        refine z_iconst (v := 0) dX11_enough_25 (by decide) ?_
        refine z_istore_n (lv' := [(3, .int 0), (0, .ref 0), (1, .int v1), (2, .int v2)]) dX11_enough_26 (by decide) rfl ?_
        refine zW.sub (w_X11_enough_L27 hn1 hn2 d (fun q32 S31 h hE hf => ?_) zN 0 S9 h hE hf) [1, 2, 3, 0] rfl rfl rfl rfl
        try dsimp only at hf
        refine z_iconst (v := (-1)) dX11_enough_84 (by decide) ?_
        have e_ := Option.some.inj hf
        subst e_
        exact z_ireturn dX11_enough_85 rfl ⟨h, rfl, rfl, hE⟩
      · have hf := zif_f hf c12
        refine z_if_ne_f (tgt := 25) dX11_enough_20 (by decide) c12 ?_
        refine z_iconst (v := (-1)) dX11_enough_23 (by decide) ?_
        have e_ := Option.some.inj hf
        subst e_
        exact z_ireturn dX11_enough_24 rfl ⟨h, rfl, rfl, hE⟩
def f_X11_pairsSaved_L37 (ex : Int32 → Int32 → Int32 → Int32 → zS → Option (Int32 × zS)) (i1 : Int32) : Nat → Int32 → Int32 → Int32 → Int32 → zS → Option (Int32 × zS)
  | 0, _, _, _, _, _ => none
  | k + 1, x2, x3, x4, x5, S =>
    if (S.1 12 1) ≤ x5 then
    zl (x3 + 1) fun (y9 : Int32) =>
    if (S.1 12 0) ≤ y9 then
    ex x2 y9 x4 x5 S
    else
    zb (f_X7_hold 19 y9 S) fun r12 S11 =>
    f_X11_pairsSaved_L37 ex i1 k x2 y9 r12 0 S11
    else
    zb (f_X7_gripOn 19 x5 i1 x3 S) fun r15 S14 =>
    zl (fun (q20 : Int32) (S19 : zS) =>
    zl (x5 + 1) fun (y21 : Int32) =>
    f_X11_pairsSaved_L37 ex i1 k q20 x3 x4 y21 S19) fun J18 =>
    if r15 < x4 then
    J18 x2 S14
    else
    zb (f_X7_gripOn 19 x5 (-1) x3 S14) fun r23 S22 =>
    if x4 ≤ r23 then
    J18 x2 S22
    else
    zl (x2 + 1) fun (y26 : Int32) =>
    J18 y26 S22
def f_X11_pairsSaved_L11 (ex : Int32 → Int32 → zS → Option (Int32 × zS)) (i1 : Int32) : Nat → Int32 → Int32 → zS → Option (Int32 × zS)
  | 0, _, _, _ => none
  | k + 1, x2, x3, S =>
    if (S.1 12 0) ≤ x3 then
    ex x2 x3 S
    else
    zb (f_X7_hold 19 x3 S) fun r6 S5 =>
    f_X11_pairsSaved_L37 (fun (q28 : Int32) (q29 : Int32) (q30 : Int32) (q31 : Int32) (S27 : zS) =>
    ex q28 q29 S27) i1 zN x2 x3 r6 0 S5
def f_X11_pairsSaved (v1 : Int32) (S : zS) : Option (Int32 × zS) :=
zb (f_X7_restart 19 S) fun _ S1 =>
f_X11_pairsSaved_L11 (fun (q33 : Int32) (q34 : Int32) (S32 : zS) =>
some (q33, S32)) v1 zN 0 0 S1
theorem w_X11_pairsSaved_L37 {L : Nat} {xs : Nat → Int32} {fm : Bool} {h0 : Nat → va_E} {t : Nat × Nat × Nat} (hn1 : 64 ≤ t.1) (hn2 : t.1 ≤ 1000000) (d : Nat) {ex : Int32 → Int32 → Int32 → Int32 → zS → Option (Int32 × zS)} {i1 : Int32} {R : Int32 × zS} (hex : ∀ (x2 : Int32) (x3 : Int32) (x4 : Int32) (x5 : Int32) (S : zS) (h : Nat → va_E), zE (zDc t.1) h0 S (h, t) → ex x2 x3 x4 x5 S = some R → zW (ia_P0 L xs fm) ia_nx (d + 3) 11 false cX11_pairsSaved 6 (some .int) 98 [(0, .ref 0), (1, .int i1), (2, .int x2), (3, .int x3), (4, .int x4), (5, .int x5)] [] (h, t) (zQi (zDc t.1) h0 t R)) : ∀ (k : Nat) (x2 : Int32) (x3 : Int32) (x4 : Int32) (x5 : Int32) (S : zS) (h : Nat → va_E), zE (zDc t.1) h0 S (h, t) → f_X11_pairsSaved_L37 ex i1 k x2 x3 x4 x5 S = some R → zW (ia_P0 L xs fm) ia_nx (d + 3) 11 false cX11_pairsSaved 6 (some .int) 37 [(0, .ref 0), (1, .int i1), (2, .int x2), (3, .int x3), (4, .int x4), (5, .int x5)] [] (h, t) (zQi (zDc t.1) h0 t R) := by
  intro k
  induction k with
  | zero => intro x2 x3 x4 x5 S h hE hf; cases hf
  | succ k ih =>
    intro x2 x3 x4 x5 S h hE hf
    unfold f_X11_pairsSaved_L37 at hf
    refine z_iload dX11_pairsSaved_37 rfl ?_
    refine z_aload_n dX11_pairsSaved_39 rfl ?_
    refine z_getC dX11_pairsSaved_40 tF_11_42 hE dc_0 rfl rfl ?_
    refine z_getC dX11_pairsSaved_43 tF_11_153 hE dc_11 rfl rfl ?_
    refine z_iconst (v := 1) dX11_pairsSaved_46 (by decide) ?_
    refine z_ialoadL (i := 1) dX11_pairsSaved_47 hE dc_12 (by decide) (by decide) ?_
    by_cases c8 : (S.1 12 1) ≤ x5
    · have hf := zif_t hf c8
      refine z_icmp_ge_t (tgt := 92) dX11_pairsSaved_48 (by decide) c8 ?_
      obtain ⟨y9, ey9, hf⟩ := zl_some hf
      refine z_iincY (v := 1) (y := y9) (lv' := [(3, .int y9), (0, .ref 0), (1, .int i1), (2, .int x2), (4, .int x4), (5, .int x5)]) dX11_pairsSaved_92 rfl (by decide) (by decide) ey9 rfl ?_
      refine z_goto (tgt := 11) dX11_pairsSaved_95 (by decide) ?_
      refine z_iload_n dX11_pairsSaved_11 rfl ?_
      refine z_aload_n dX11_pairsSaved_12 rfl ?_
      refine z_getC dX11_pairsSaved_13 tF_11_42 hE dc_0 rfl rfl ?_
      refine z_getC dX11_pairsSaved_16 tF_11_153 hE dc_11 rfl rfl ?_
      refine z_iconst (v := 0) dX11_pairsSaved_19 (by decide) ?_
      refine z_ialoadL (i := 0) dX11_pairsSaved_20 hE dc_12 (by decide) (by decide) ?_
      by_cases c10 : (S.1 12 0) ≤ y9
      · have hf := zif_t hf c10
        refine z_icmp_ge_t (tgt := 98) dX11_pairsSaved_21 (by decide) c10 ?_
        exact zW.sub (hex x2 y9 x4 x5 S _ hE hf) [1, 2, 3, 0, 4, 5] rfl rfl rfl rfl
      · have hf := zif_f hf c10
        refine z_icmp_ge_f (tgt := 98) dX11_pairsSaved_21 (by decide) c10 ?_
        refine z_aload_n dX11_pairsSaved_24 rfl ?_
        refine z_getC dX11_pairsSaved_25 tF_11_62 hE dc_0 rfl rfl ?_
        refine z_iload_n dX11_pairsSaved_28 rfl ?_
        obtain ⟨r12, S11, k13, hf⟩ := zb_some hf
        refine z_callVi dX11_pairsSaved_29 tM_11_185 mt_7009 (Nat.le_of_ble_eq_true rfl) rfl rfl (z_recv hE dc_19 rfl) rfl (ia_oks_le hn1 rfl) (Nat.le_of_ble_eq_true rfl) (w_X7_hold hn1 hn2 (d + 1) sc_19 hE k13) (fun h hE => ?_)
        refine z_istore (lv' := [(4, .int r12), (3, .int y9), (0, .ref 0), (1, .int i1), (2, .int x2), (5, .int x5)]) dX11_pairsSaved_32 (by decide) rfl ?_
        refine z_iconst (v := 0) dX11_pairsSaved_34 (by decide) ?_
        refine z_istore (lv' := [(5, .int 0), (4, .int r12), (3, .int y9), (0, .ref 0), (1, .int i1), (2, .int x2)]) dX11_pairsSaved_35 (by decide) rfl ?_
        exact zW.sub (ih x2 y9 r12 0 S11 _ hE hf) [3, 4, 5, 2, 1, 0] rfl rfl rfl rfl
    · have hf := zif_f hf c8
      refine z_icmp_ge_f (tgt := 92) dX11_pairsSaved_48 (by decide) c8 ?_
      refine z_aload_n dX11_pairsSaved_51 rfl ?_
      refine z_getC dX11_pairsSaved_52 tF_11_62 hE dc_0 rfl rfl ?_
      refine z_iload dX11_pairsSaved_55 rfl ?_
      refine z_iload_n dX11_pairsSaved_57 rfl ?_
      refine z_iload_n dX11_pairsSaved_58 rfl ?_
      obtain ⟨r15, S14, k16, hf⟩ := zb_some hf
      refine z_callVi dX11_pairsSaved_59 tM_11_212 mt_7006 (Nat.le_of_ble_eq_true rfl) rfl rfl (z_recv hE dc_19 rfl) rfl (ia_oks_le hn1 rfl) (Nat.le_of_ble_eq_true rfl) (w_X7_gripOn hn1 hn2 (d + 0) sc_19 hE k16) (fun h hE => ?_)
      refine z_iload dX11_pairsSaved_62 rfl ?_
      obtain ⟨J18, eJ18, hf⟩ := zl_some hf
      have hJ18 : ∀ (q20 : Int32) (S19 : zS) (h : Nat → va_E), zE (zDc t.1) h0 S19 (h, t) → J18 q20 S19 = some R → zW (ia_P0 L xs fm) ia_nx (d + 3) 11 false cX11_pairsSaved 6 (some .int) 86 [(0, .ref 0), (1, .int i1), (2, .int q20), (3, .int x3), (4, .int x4), (5, .int x5)] [] (h, t) (zQi (zDc t.1) h0 t R) := by
        intro q20 S19 h hE hf
        rw [eJ18] at hf
        obtain ⟨y21, ey21, hf⟩ := zl_some hf
        refine z_iincY (v := 1) (y := y21) (lv' := [(5, .int y21), (0, .ref 0), (1, .int i1), (2, .int q20), (3, .int x3), (4, .int x4)]) dX11_pairsSaved_86 rfl (by decide) (by decide) ey21 rfl ?_
        refine z_goto (tgt := 37) dX11_pairsSaved_89 (by decide) ?_
        exact zW.sub (ih q20 x3 x4 y21 S19 _ hE hf) [1, 2, 3, 4, 5, 0] rfl rfl rfl rfl
      by_cases c17 : r15 < x4
      · have hf := zif_t hf c17
        refine z_icmp_lt_t (tgt := 86) dX11_pairsSaved_64 (by decide) c17 ?_
        exact zW.sub (hJ18 x2 S14 _ hE hf) [0, 1, 2, 3, 4, 5] rfl rfl rfl rfl
      · have hf := zif_f hf c17
        refine z_icmp_lt_f (tgt := 86) dX11_pairsSaved_64 (by decide) c17 ?_
        refine z_aload_n dX11_pairsSaved_67 rfl ?_
        refine z_getC dX11_pairsSaved_68 tF_11_62 hE dc_0 rfl rfl ?_
        refine z_iload dX11_pairsSaved_71 rfl ?_
        refine z_iconst (v := (-1)) dX11_pairsSaved_73 (by decide) ?_
        refine z_iload_n dX11_pairsSaved_74 rfl ?_
        obtain ⟨r23, S22, k24, hf⟩ := zb_some hf
        refine z_callVi dX11_pairsSaved_75 tM_11_212 mt_7006 (Nat.le_of_ble_eq_true rfl) rfl rfl (z_recv hE dc_19 rfl) rfl (ia_oks_le hn1 rfl) (Nat.le_of_ble_eq_true rfl) (w_X7_gripOn hn1 hn2 (d + 0) sc_19 hE k24) (fun h hE => ?_)
        refine z_iload dX11_pairsSaved_78 rfl ?_
        by_cases c25 : x4 ≤ r23
        · have hf := zif_t hf c25
          refine z_icmp_ge_t (tgt := 86) dX11_pairsSaved_80 (by decide) c25 ?_
          exact zW.sub (hJ18 x2 S22 _ hE hf) [0, 1, 2, 3, 4, 5] rfl rfl rfl rfl
        · have hf := zif_f hf c25
          refine z_icmp_ge_f (tgt := 86) dX11_pairsSaved_80 (by decide) c25 ?_
          obtain ⟨y26, ey26, hf⟩ := zl_some hf
          refine z_iincY (v := 1) (y := y26) (lv' := [(2, .int y26), (0, .ref 0), (1, .int i1), (3, .int x3), (4, .int x4), (5, .int x5)]) dX11_pairsSaved_83 rfl (by decide) (by decide) ey26 rfl ?_
          exact zW.sub (hJ18 y26 S22 _ hE hf) [1, 2, 0, 3, 4, 5] rfl rfl rfl rfl
theorem w_X11_pairsSaved_L11 {L : Nat} {xs : Nat → Int32} {fm : Bool} {h0 : Nat → va_E} {t : Nat × Nat × Nat} (hn1 : 64 ≤ t.1) (hn2 : t.1 ≤ 1000000) (d : Nat) {ex : Int32 → Int32 → zS → Option (Int32 × zS)} {i1 : Int32} {R : Int32 × zS} (hex : ∀ (x2 : Int32) (x3 : Int32) (S : zS) (h : Nat → va_E), zE (zDc t.1) h0 S (h, t) → ex x2 x3 S = some R → zW (ia_P0 L xs fm) ia_nx (d + 3) 11 false cX11_pairsSaved 6 (some .int) 98 [(0, .ref 0), (1, .int i1), (2, .int x2), (3, .int x3)] [] (h, t) (zQi (zDc t.1) h0 t R)) : ∀ (k : Nat) (x2 : Int32) (x3 : Int32) (S : zS) (h : Nat → va_E), zE (zDc t.1) h0 S (h, t) → f_X11_pairsSaved_L11 ex i1 k x2 x3 S = some R → zW (ia_P0 L xs fm) ia_nx (d + 3) 11 false cX11_pairsSaved 6 (some .int) 11 [(0, .ref 0), (1, .int i1), (2, .int x2), (3, .int x3)] [] (h, t) (zQi (zDc t.1) h0 t R) := by
  intro k
  induction k with
  | zero => intro x2 x3 S h hE hf; cases hf
  | succ k ih =>
    intro x2 x3 S h hE hf
    unfold f_X11_pairsSaved_L11 at hf
    refine z_iload_n dX11_pairsSaved_11 rfl ?_
    refine z_aload_n dX11_pairsSaved_12 rfl ?_
    refine z_getC dX11_pairsSaved_13 tF_11_42 hE dc_0 rfl rfl ?_
    refine z_getC dX11_pairsSaved_16 tF_11_153 hE dc_11 rfl rfl ?_
    refine z_iconst (v := 0) dX11_pairsSaved_19 (by decide) ?_
    refine z_ialoadL (i := 0) dX11_pairsSaved_20 hE dc_12 (by decide) (by decide) ?_
    by_cases c4 : (S.1 12 0) ≤ x3
    · have hf := zif_t hf c4
      refine z_icmp_ge_t (tgt := 98) dX11_pairsSaved_21 (by decide) c4 ?_
      exact zW.sub (hex x2 x3 S _ hE hf) [0, 1, 2, 3] rfl rfl rfl rfl
    · have hf := zif_f hf c4
      refine z_icmp_ge_f (tgt := 98) dX11_pairsSaved_21 (by decide) c4 ?_
      refine z_aload_n dX11_pairsSaved_24 rfl ?_
      refine z_getC dX11_pairsSaved_25 tF_11_62 hE dc_0 rfl rfl ?_
      refine z_iload_n dX11_pairsSaved_28 rfl ?_
      obtain ⟨r6, S5, k7, hf⟩ := zb_some hf
      refine z_callVi dX11_pairsSaved_29 tM_11_185 mt_7009 (Nat.le_of_ble_eq_true rfl) rfl rfl (z_recv hE dc_19 rfl) rfl (ia_oks_le hn1 rfl) (Nat.le_of_ble_eq_true rfl) (w_X7_hold hn1 hn2 (d + 1) sc_19 hE k7) (fun h hE => ?_)
      refine z_istore (lv' := [(4, .int r6), (0, .ref 0), (1, .int i1), (2, .int x2), (3, .int x3)]) dX11_pairsSaved_32 (by decide) rfl ?_
      refine z_iconst (v := 0) dX11_pairsSaved_34 (by decide) ?_
      refine z_istore (lv' := [(5, .int 0), (4, .int r6), (0, .ref 0), (1, .int i1), (2, .int x2), (3, .int x3)]) dX11_pairsSaved_35 (by decide) rfl ?_
      refine zW.sub (w_X11_pairsSaved_L37 hn1 hn2 d (fun q28 q29 q30 q31 S27 h hE hf => ?_) zN x2 x3 r6 0 S5 h hE hf) [2, 3, 4, 5, 1, 0] rfl rfl rfl rfl
      try dsimp only at hf
      exact zW.sub (hex q28 q29 S27 _ hE hf) [0, 1, 2, 3] rfl rfl rfl rfl
theorem w_X11_pairsSaved {L : Nat} {xs : Nat → Int32} {fm : Bool} {h0 : Nat → va_E} {t : Nat × Nat × Nat} (hn1 : 64 ≤ t.1) (hn2 : t.1 ≤ 1000000) (d : Nat) {h : Nat → va_E} {S : zS} (hE : zE (zDc t.1) h0 S (h, t)) {v1 : Int32} {R : Int32 × zS} (hf : f_X11_pairsSaved v1 S = some R) : zC (ia_P0 L xs fm) (d + 4) 11040 [.ref 0, .int v1] (h, t) (zQi (zDc t.1) h0 t R) := by
  refine zC_of mt_11040 nn_11040 (Nat.le_of_ble_eq_true rfl) ?_
  refine zW_lv (lv' := [(0, .ref 0), (1, .int v1)]) rfl ?_
  unfold f_X11_pairsSaved at hf
  refine z_aload_n dX11_pairsSaved_0 rfl ?_
  refine z_getC dX11_pairsSaved_1 tF_11_62 hE dc_0 rfl rfl ?_
  obtain ⟨r2, S1, k3, hf⟩ := zb_some hf
  refine z_callVv dX11_pairsSaved_4 tM_11_142 mt_7001 (Nat.le_of_ble_eq_true rfl) rfl rfl (z_recv hE dc_19 rfl) rfl (ia_oks_le hn1 rfl) (Nat.le_of_ble_eq_true rfl) (w_X7_restart hn1 hn2 (d + 0) sc_19 hE k3) (fun h hE => ?_)
  refine z_iconst (v := 0) dX11_pairsSaved_7 (by decide) ?_
  refine z_istore_n (lv' := [(2, .int 0), (0, .ref 0), (1, .int v1)]) dX11_pairsSaved_8 (by decide) rfl ?_
  refine z_iconst (v := 0) dX11_pairsSaved_9 (by decide) ?_
  refine z_istore_n (lv' := [(3, .int 0), (2, .int 0), (0, .ref 0), (1, .int v1)]) dX11_pairsSaved_10 (by decide) rfl ?_
  refine zW.sub (w_X11_pairsSaved_L11 hn1 hn2 d (fun q33 q34 S32 h hE hf => ?_) zN 0 0 S1 h hE hf) [2, 3, 1, 0] rfl rfl rfl rfl
  try dsimp only at hf
  refine z_iload_n dX11_pairsSaved_98 rfl ?_
  have e_ := Option.some.inj hf
  subst e_
  exact z_ireturn dX11_pairsSaved_99 rfl ⟨h, rfl, rfl, hE⟩
def f_X11_commonDivisor_L7 (ex : Int32 → Int32 → Int32 → zS → Option (Int32 × zS)) (i0 : Int32) (i1 : Int32) : Nat → Int32 → Int32 → Int32 → zS → Option (Int32 × zS)
  | 0, _, _, _, _ => none
  | k + 1, x2, x3, x4, S =>
    if 100 ≤ x4 then
    ex x2 x3 x4 S
    else
    if x3 = 0 then
    ex x2 x3 x4 S
    else
    if x3 = 0 then none else
    zl (x2 - x2 / x3 * x3) fun (y3 : Int32) =>
    zl (x4 + 1) fun (y4 : Int32) =>
    f_X11_commonDivisor_L7 ex i0 i1 k x3 y3 y4 S
def f_X11_commonDivisor (v0 : Int32) (v1 : Int32) (S : zS) : Option (Int32 × zS) :=
f_X11_commonDivisor_L7 (fun (q7 : Int32) (q8 : Int32) (q9 : Int32) (S6 : zS) =>
some (q7, S6)) v0 v1 zN v0 v1 0 S
theorem w_X11_commonDivisor_L7 {L : Nat} {xs : Nat → Int32} {fm : Bool} {h0 : Nat → va_E} {t : Nat × Nat × Nat} (hn1 : 64 ≤ t.1) (hn2 : t.1 ≤ 1000000) (d : Nat) {ex : Int32 → Int32 → Int32 → zS → Option (Int32 × zS)} {i0 : Int32} {i1 : Int32} {R : Int32 × zS} (hex : ∀ (x2 : Int32) (x3 : Int32) (x4 : Int32) (S : zS) (h : Nat → va_E), zE (zDc t.1) h0 S (h, t) → ex x2 x3 x4 S = some R → zW (ia_P0 L xs fm) ia_nx (d + 0) 11 false cX11_commonDivisor 6 (some .int) 34 [(0, .int i0), (1, .int i1), (2, .int x2), (3, .int x3), (4, .int x4)] [] (h, t) (zQi (zDc t.1) h0 t R)) : ∀ (k : Nat) (x2 : Int32) (x3 : Int32) (x4 : Int32) (S : zS) (h : Nat → va_E), zE (zDc t.1) h0 S (h, t) → f_X11_commonDivisor_L7 ex i0 i1 k x2 x3 x4 S = some R → zW (ia_P0 L xs fm) ia_nx (d + 0) 11 false cX11_commonDivisor 6 (some .int) 7 [(0, .int i0), (1, .int i1), (2, .int x2), (3, .int x3), (4, .int x4)] [] (h, t) (zQi (zDc t.1) h0 t R) := by
  intro k
  induction k with
  | zero => intro x2 x3 x4 S h hE hf; cases hf
  | succ k ih =>
    intro x2 x3 x4 S h hE hf
    unfold f_X11_commonDivisor_L7 at hf
    refine z_iload dX11_commonDivisor_7 rfl ?_
    refine z_bipush (v := 100) dX11_commonDivisor_9 (by decide) ?_
    by_cases c1 : 100 ≤ x4
    · have hf := zif_t hf c1
      refine z_icmp_ge_t (tgt := 34) dX11_commonDivisor_11 (by decide) c1 ?_
      exact zW.sub (hex x2 x3 x4 S _ hE hf) [0, 1, 2, 3, 4] rfl rfl rfl rfl
    · have hf := zif_f hf c1
      refine z_icmp_ge_f (tgt := 34) dX11_commonDivisor_11 (by decide) c1 ?_
      refine z_iload_n dX11_commonDivisor_14 rfl ?_
      by_cases c2 : x3 = 0
      · have hf := zif_t hf c2
        refine z_if_eq_t (tgt := 34) dX11_commonDivisor_15 (by decide) c2 ?_
        exact zW.sub (hex x2 x3 x4 S _ hE hf) [0, 1, 2, 3, 4] rfl rfl rfl rfl
      · have hf := zif_f hf c2
        refine z_if_eq_f (tgt := 34) dX11_commonDivisor_15 (by decide) c2 ?_
        refine z_iload_n dX11_commonDivisor_18 rfl ?_
        refine z_iload_n dX11_commonDivisor_19 rfl ?_
        obtain ⟨b5, hf⟩ := zchkn hf
        refine z_irem dX11_commonDivisor_20 b5 ?_
        obtain ⟨y3, ey3, hf⟩ := zl_some hf
        refine z_topi ey3 ?_
        refine z_istore (lv' := [(5, .int y3), (0, .int i0), (1, .int i1), (2, .int x2), (3, .int x3), (4, .int x4)]) dX11_commonDivisor_21 (by decide) rfl ?_
        refine z_iload_n dX11_commonDivisor_23 rfl ?_
        refine z_istore_n (lv' := [(2, .int x3), (5, .int y3), (0, .int i0), (1, .int i1), (3, .int x3), (4, .int x4)]) dX11_commonDivisor_24 (by decide) rfl ?_
        refine z_iload dX11_commonDivisor_25 rfl ?_
        refine z_istore_n (lv' := [(3, .int y3), (2, .int x3), (5, .int y3), (0, .int i0), (1, .int i1), (4, .int x4)]) dX11_commonDivisor_27 (by decide) rfl ?_
        obtain ⟨y4, ey4, hf⟩ := zl_some hf
        refine z_iincY (v := 1) (y := y4) (lv' := [(4, .int y4), (3, .int y3), (2, .int x3), (5, .int y3), (0, .int i0), (1, .int i1)]) dX11_commonDivisor_28 rfl (by decide) (by decide) ey4 rfl ?_
        refine z_goto (tgt := 7) dX11_commonDivisor_31 (by decide) ?_
        exact zW.sub (ih x3 y3 y4 S _ hE hf) [4, 5, 2, 1, 0] rfl rfl rfl rfl
theorem w_X11_commonDivisor {L : Nat} {xs : Nat → Int32} {fm : Bool} {h0 : Nat → va_E} {t : Nat × Nat × Nat} (hn1 : 64 ≤ t.1) (hn2 : t.1 ≤ 1000000) (d : Nat) {h : Nat → va_E} {S : zS} (hE : zE (zDc t.1) h0 S (h, t)) {v0 : Int32} {v1 : Int32} {R : Int32 × zS} (hf : f_X11_commonDivisor v0 v1 S = some R) : zC (ia_P0 L xs fm) (d + 1) 11041 [.int v0, .int v1] (h, t) (zQi (zDc t.1) h0 t R) := by
  refine zC_of mt_11041 nn_11041 (Nat.le_of_ble_eq_true rfl) ?_
  refine zW_lv (lv' := [(0, .int v0), (1, .int v1)]) rfl ?_
  unfold f_X11_commonDivisor at hf
  refine z_iload_n dX11_commonDivisor_0 rfl ?_
  refine z_istore_n (lv' := [(2, .int v0), (0, .int v0), (1, .int v1)]) dX11_commonDivisor_1 (by decide) rfl ?_
  refine z_iload_n dX11_commonDivisor_2 rfl ?_
  refine z_istore_n (lv' := [(3, .int v1), (2, .int v0), (0, .int v0), (1, .int v1)]) dX11_commonDivisor_3 (by decide) rfl ?_
  refine z_iconst (v := 0) dX11_commonDivisor_4 (by decide) ?_
  refine z_istore (lv' := [(4, .int 0), (3, .int v1), (2, .int v0), (0, .int v0), (1, .int v1)]) dX11_commonDivisor_5 (by decide) rfl ?_
  refine zW.sub (w_X11_commonDivisor_L7 hn1 hn2 d (fun q7 q8 q9 S6 h hE hf => ?_) zN v0 v1 0 S h hE hf) [3, 4, 2, 1, 0] rfl rfl rfl rfl
  try dsimp only at hf
  refine z_iload_n dX11_commonDivisor_34 rfl ?_
  have e_ := Option.some.inj hf
  subst e_
  exact z_ireturn dX11_commonDivisor_35 rfl ⟨h, rfl, rfl, hE⟩
def f_X11_saves (v1 : Int32) (v2 : Int32) (S : zS) : Option (Int32 × zS) :=
if v1 = (-1) then
some ((-1), S)
else
zb (f_X11_isTool v1 S) fun r3 S2 =>
if r3 = 0 then
some ((-1), S2)
else
if v2 < 0 then
some ((-1), S2)
else
if v2 ≤ 2 then
zb (f_X11_pairsSaved v1 S2) fun r9 S8 =>
if ¬ v2 = 0 then
if ¬ r9 = 0 then
zb (f_X10_item 2 v1 1 S8) fun r14 S13 =>
zb (f_X11_commonDivisor r14 r9 S13) fun r17 S16 =>
if ¬ r17 = 0 then
if ¬ v2 = 1 then
if r17 = 0 then none else
some (r9 / r17, S16)
else
if r17 = 0 then none else
some (r14 / r17, S16)
else
some ((-1), S16)
else
some ((-1), S8)
else
some (r9, S8)
else
some ((-1), S2)
theorem w_X11_saves {L : Nat} {xs : Nat → Int32} {fm : Bool} {h0 : Nat → va_E} {t : Nat × Nat × Nat} (hn1 : 64 ≤ t.1) (hn2 : t.1 ≤ 1000000) (d : Nat) {h : Nat → va_E} {S : zS} (hE : zE (zDc t.1) h0 S (h, t)) {v1 : Int32} {v2 : Int32} {R : Int32 × zS} (hf : f_X11_saves v1 v2 S = some R) : zC (ia_P0 L xs fm) (d + 5) 11039 [.ref 0, .int v1, .int v2] (h, t) (zQi (zDc t.1) h0 t R) := by
  refine zC_of mt_11039 nn_11039 (Nat.le_of_ble_eq_true rfl) ?_
  refine zW_lv (lv' := [(0, .ref 0), (1, .int v1), (2, .int v2)]) rfl ?_
  unfold f_X11_saves at hf
  refine z_iload_n dX11_saves_0 rfl ?_
  refine z_iconst (v := (-1)) dX11_saves_1 (by decide) ?_
  by_cases c1 : v1 = (-1)
  · have hf := zif_t hf c1
    refine z_icmp_eq_t (tgt := 22) dX11_saves_2 (by decide) c1 ?_
    refine z_iconst (v := (-1)) dX11_saves_22 (by decide) ?_
    have e_ := Option.some.inj hf
    subst e_
    exact z_ireturn dX11_saves_23 rfl ⟨h, rfl, rfl, hE⟩
  · have hf := zif_f hf c1
    refine z_icmp_eq_f (tgt := 22) dX11_saves_2 (by decide) c1 ?_
    refine z_aload_n dX11_saves_5 rfl ?_
    refine z_iload_n dX11_saves_6 rfl ?_
    obtain ⟨r3, S2, k4, hf⟩ := zb_some hf
    refine z_callVi dX11_saves_7 tM_11_205 mt_11011 (Nat.le_of_ble_eq_true rfl) rfl rfl (z_recv hE dc_0 rfl) rfl (ia_oks_le hn1 rfl) (Nat.le_of_ble_eq_true rfl) (w_X11_isTool hn1 hn2 (d + 3) hE k4) (fun h hE => ?_)
    by_cases c5 : r3 = 0
    · have hf := zif_t hf c5
      refine z_if_eq_t (tgt := 22) dX11_saves_10 (by decide) c5 ?_
      refine z_iconst (v := (-1)) dX11_saves_22 (by decide) ?_
      have e_ := Option.some.inj hf
      subst e_
      exact z_ireturn dX11_saves_23 rfl ⟨h, rfl, rfl, hE⟩
    · have hf := zif_f hf c5
      refine z_if_eq_f (tgt := 22) dX11_saves_10 (by decide) c5 ?_
      refine z_iload_n dX11_saves_13 rfl ?_
      by_cases c6 : v2 < 0
      · have hf := zif_t hf c6
        refine z_if_lt_t (tgt := 22) dX11_saves_14 (by decide) c6 ?_
        refine z_iconst (v := (-1)) dX11_saves_22 (by decide) ?_
        have e_ := Option.some.inj hf
        subst e_
        exact z_ireturn dX11_saves_23 rfl ⟨h, rfl, rfl, hE⟩
      · have hf := zif_f hf c6
        refine z_if_lt_f (tgt := 22) dX11_saves_14 (by decide) c6 ?_
        refine z_iload_n dX11_saves_17 rfl ?_
        refine z_iconst (v := 2) dX11_saves_18 (by decide) ?_
        by_cases c7 : v2 ≤ 2
        · have hf := zif_t hf c7
          refine z_icmp_le_t (tgt := 24) dX11_saves_19 (by decide) c7 ?_
          refine z_aload_n dX11_saves_24 rfl ?_
          refine z_iload_n dX11_saves_25 rfl ?_
          obtain ⟨r9, S8, k10, hf⟩ := zb_some hf
          refine z_callVi dX11_saves_26 tM_11_319 mt_11040 (Nat.le_of_ble_eq_true rfl) rfl rfl (z_recv hE dc_0 rfl) rfl (ia_oks_le hn1 rfl) (Nat.le_of_ble_eq_true rfl) (w_X11_pairsSaved hn1 hn2 (d + 0) hE k10) (fun h hE => ?_)
          refine z_istore_n (lv' := [(3, .int r9), (0, .ref 0), (1, .int v1), (2, .int v2)]) dX11_saves_29 (by decide) rfl ?_
          refine z_iload_n dX11_saves_30 rfl ?_
          by_cases c11 : ¬ v2 = 0
          · have hf := zif_t hf c11
            refine z_if_ne_t (tgt := 36) dX11_saves_31 (by decide) c11 ?_
            refine z_iload_n dX11_saves_36 rfl ?_
            by_cases c12 : ¬ r9 = 0
            · have hf := zif_t hf c12
              refine z_if_ne_t (tgt := 42) dX11_saves_37 (by decide) c12 ?_
              refine z_aload_n dX11_saves_42 rfl ?_
              refine z_getC dX11_saves_43 tF_11_42 hE dc_0 rfl rfl ?_
              refine z_iconst (v := 2) dX11_saves_46 (by decide) ?_
              refine z_iload_n dX11_saves_47 rfl ?_
              refine z_iconst (v := 1) dX11_saves_48 (by decide) ?_
              obtain ⟨r14, S13, k15, hf⟩ := zb_some hf
              refine z_callVi dX11_saves_49 tM_11_192 mt_10004 (Nat.le_of_ble_eq_true rfl) rfl rfl (z_recv hE dc_11 rfl) rfl (ia_oks_le hn1 rfl) (Nat.le_of_ble_eq_true rfl) (w_X10_item hn1 hn2 (d + 2) hE k15) (fun h hE => ?_)
              refine z_istore (lv' := [(4, .int r14), (3, .int r9), (0, .ref 0), (1, .int v1), (2, .int v2)]) dX11_saves_52 (by decide) rfl ?_
              refine z_iload dX11_saves_54 rfl ?_
              refine z_iload_n dX11_saves_56 rfl ?_
              obtain ⟨r17, S16, k18, hf⟩ := zb_some hf
              refine z_callSi dX11_saves_57 tM_11_322 (by decide) mt_11041 (Nat.le_of_ble_eq_true rfl) rfl rfl (ia_oks_le hn1 rfl) (Nat.le_of_ble_eq_true rfl) (w_X11_commonDivisor hn1 hn2 (d + 3) hE k18) (fun h hE => ?_)
              refine z_istore (lv' := [(5, .int r17), (4, .int r14), (3, .int r9), (0, .ref 0), (1, .int v1), (2, .int v2)]) dX11_saves_60 (by decide) rfl ?_
              refine z_iload dX11_saves_62 rfl ?_
              by_cases c19 : ¬ r17 = 0
              · have hf := zif_t hf c19
                refine z_if_ne_t (tgt := 69) dX11_saves_64 (by decide) c19 ?_
                refine z_iload_n dX11_saves_69 rfl ?_
                refine z_iconst (v := 1) dX11_saves_70 (by decide) ?_
                by_cases c20 : ¬ v2 = 1
                · have hf := zif_t hf c20
                  refine z_icmp_ne_t (tgt := 79) dX11_saves_71 (by decide) c20 ?_
                  refine z_iload_n dX11_saves_79 rfl ?_
                  refine z_iload dX11_saves_80 rfl ?_
                  obtain ⟨b21, hf⟩ := zchkn hf
                  refine z_idiv dX11_saves_82 b21 ?_
                  have e_ := Option.some.inj hf
                  subst e_
                  exact z_ireturn dX11_saves_83 rfl ⟨h, rfl, rfl, hE⟩
                · have hf := zif_f hf c20
                  refine z_icmp_ne_f (tgt := 79) dX11_saves_71 (by decide) c20 ?_
                  refine z_iload dX11_saves_74 rfl ?_
                  refine z_goto (tgt := 80) dX11_saves_76 (by decide) ?_
                  refine z_iload dX11_saves_80 rfl ?_
                  obtain ⟨b22, hf⟩ := zchkn hf
                  refine z_idiv dX11_saves_82 b22 ?_
                  have e_ := Option.some.inj hf
                  subst e_
                  exact z_ireturn dX11_saves_83 rfl ⟨h, rfl, rfl, hE⟩
              · have hf := zif_f hf c19
                refine z_if_ne_f (tgt := 69) dX11_saves_64 (by decide) c19 ?_
                refine z_iconst (v := (-1)) dX11_saves_67 (by decide) ?_
                have e_ := Option.some.inj hf
                subst e_
                exact z_ireturn dX11_saves_68 rfl ⟨h, rfl, rfl, hE⟩
            · have hf := zif_f hf c12
              refine z_if_ne_f (tgt := 42) dX11_saves_37 (by decide) c12 ?_
              refine z_iconst (v := (-1)) dX11_saves_40 (by decide) ?_
              have e_ := Option.some.inj hf
              subst e_
              exact z_ireturn dX11_saves_41 rfl ⟨h, rfl, rfl, hE⟩
          · have hf := zif_f hf c11
            refine z_if_ne_f (tgt := 36) dX11_saves_31 (by decide) c11 ?_
            refine z_iload_n dX11_saves_34 rfl ?_
            have e_ := Option.some.inj hf
            subst e_
            exact z_ireturn dX11_saves_35 rfl ⟨h, rfl, rfl, hE⟩
        · have hf := zif_f hf c7
          refine z_icmp_le_f (tgt := 24) dX11_saves_19 (by decide) c7 ?_
          refine z_iconst (v := (-1)) dX11_saves_22 (by decide) ?_
          have e_ := Option.some.inj hf
          subst e_
          exact z_ireturn dX11_saves_23 rfl ⟨h, rfl, rfl, hE⟩
def f_X11_openersOf_L20 (ex : Int32 → Int32 → zS → Option (Int32 × zS)) (i1 : Int32) (i2 : Int32) : Nat → Int32 → Int32 → zS → Option (Int32 × zS)
  | 0, _, _, _ => none
  | k + 1, x3, x4, S =>
    if (S.1 12 1) ≤ x4 then
    ex x3 x4 S
    else
    zb (f_X7_gripOn 19 x4 (-1) i1 S) fun r5 S4 =>
    zb (f_X7_hold 19 i1 S4) fun r8 S7 =>
    zl (fun (q12 : Int32) =>
    zl (x4 + 1) fun (y13 : Int32) =>
    f_X11_openersOf_L20 ex i1 i2 k q12 y13 S7) fun J11 =>
    if r5 < r8 then
    J11 x3
    else
    zl (x3 + 1) fun (y14 : Int32) =>
    J11 y14
def f_X11_openersOf (v1 : Int32) (v2 : Int32) (S : zS) : Option (Int32 × zS) :=
if ia_in ((v1 * 7) + 0) 66 = true then
zl (sV S 20 (((v1 * 7) + 0).toNatClampNeg) v2) fun S2 =>
f_X11_openersOf_L20 (fun (q16 : Int32) (q17 : Int32) (S15 : zS) =>
some (q16, S15)) v1 v2 zN 0 0 S2
else none
theorem w_X11_openersOf_L20 {L : Nat} {xs : Nat → Int32} {fm : Bool} {h0 : Nat → va_E} {t : Nat × Nat × Nat} (hn1 : 64 ≤ t.1) (hn2 : t.1 ≤ 1000000) (d : Nat) {ex : Int32 → Int32 → zS → Option (Int32 × zS)} {i1 : Int32} {i2 : Int32} {R : Int32 × zS} (hex : ∀ (x3 : Int32) (x4 : Int32) (S : zS) (h : Nat → va_E), zE (zDc t.1) h0 S (h, t) → ex x3 x4 S = some R → zW (ia_P0 L xs fm) ia_nx (d + 3) 11 false cX11_openersOf 5 (some .int) 65 [(0, .ref 0), (1, .int i1), (2, .int i2), (3, .int x3), (4, .int x4)] [] (h, t) (zQi (zDc t.1) h0 t R)) : ∀ (k : Nat) (x3 : Int32) (x4 : Int32) (S : zS) (h : Nat → va_E), zE (zDc t.1) h0 S (h, t) → f_X11_openersOf_L20 ex i1 i2 k x3 x4 S = some R → zW (ia_P0 L xs fm) ia_nx (d + 3) 11 false cX11_openersOf 5 (some .int) 20 [(0, .ref 0), (1, .int i1), (2, .int i2), (3, .int x3), (4, .int x4)] [] (h, t) (zQi (zDc t.1) h0 t R) := by
  intro k
  induction k with
  | zero => intro x3 x4 S h hE hf; cases hf
  | succ k ih =>
    intro x3 x4 S h hE hf
    unfold f_X11_openersOf_L20 at hf
    refine z_iload dX11_openersOf_20 rfl ?_
    refine z_aload_n dX11_openersOf_22 rfl ?_
    refine z_getC dX11_openersOf_23 tF_11_42 hE dc_0 rfl rfl ?_
    refine z_getC dX11_openersOf_26 tF_11_153 hE dc_11 rfl rfl ?_
    refine z_iconst (v := 1) dX11_openersOf_29 (by decide) ?_
    refine z_ialoadL (i := 1) dX11_openersOf_30 hE dc_12 (by decide) (by decide) ?_
    by_cases c3 : (S.1 12 1) ≤ x4
    · have hf := zif_t hf c3
      refine z_icmp_ge_t (tgt := 65) dX11_openersOf_31 (by decide) c3 ?_
      exact zW.sub (hex x3 x4 S _ hE hf) [0, 1, 2, 3, 4] rfl rfl rfl rfl
    · have hf := zif_f hf c3
      refine z_icmp_ge_f (tgt := 65) dX11_openersOf_31 (by decide) c3 ?_
      refine z_aload_n dX11_openersOf_34 rfl ?_
      refine z_getC dX11_openersOf_35 tF_11_62 hE dc_0 rfl rfl ?_
      refine z_iload dX11_openersOf_38 rfl ?_
      refine z_iconst (v := (-1)) dX11_openersOf_40 (by decide) ?_
      refine z_iload_n dX11_openersOf_41 rfl ?_
      obtain ⟨r5, S4, k6, hf⟩ := zb_some hf
      refine z_callVi dX11_openersOf_42 tM_11_212 mt_7006 (Nat.le_of_ble_eq_true rfl) rfl rfl (z_recv hE dc_19 rfl) rfl (ia_oks_le hn1 rfl) (Nat.le_of_ble_eq_true rfl) (w_X7_gripOn hn1 hn2 (d + 0) sc_19 hE k6) (fun h hE => ?_)
      refine z_aload_n dX11_openersOf_45 rfl ?_
      refine z_getC dX11_openersOf_46 tF_11_62 hE dc_0 rfl rfl ?_
      refine z_iload_n dX11_openersOf_49 rfl ?_
      obtain ⟨r8, S7, k9, hf⟩ := zb_some hf
      refine z_callVi dX11_openersOf_50 tM_11_185 mt_7009 (Nat.le_of_ble_eq_true rfl) rfl rfl (z_recv hE dc_19 rfl) rfl (ia_oks_le hn1 rfl) (Nat.le_of_ble_eq_true rfl) (w_X7_hold hn1 hn2 (d + 1) sc_19 hE k9) (fun h hE => ?_)
      obtain ⟨J11, eJ11, hf⟩ := zl_some hf
      have hJ11 : ∀ (q12 : Int32) (h : Nat → va_E), zE (zDc t.1) h0 S7 (h, t) → J11 q12 = some R → zW (ia_P0 L xs fm) ia_nx (d + 3) 11 false cX11_openersOf 5 (some .int) 59 [(0, .ref 0), (1, .int i1), (2, .int i2), (3, .int q12), (4, .int x4)] [] (h, t) (zQi (zDc t.1) h0 t R) := by
        intro q12 h hE hf
        rw [eJ11] at hf
        obtain ⟨y13, ey13, hf⟩ := zl_some hf
        refine z_iincY (v := 1) (y := y13) (lv' := [(4, .int y13), (0, .ref 0), (1, .int i1), (2, .int i2), (3, .int q12)]) dX11_openersOf_59 rfl (by decide) (by decide) ey13 rfl ?_
        refine z_goto (tgt := 20) dX11_openersOf_62 (by decide) ?_
        exact zW.sub (ih q12 y13 S7 _ hE hf) [1, 2, 3, 4, 0] rfl rfl rfl rfl
      by_cases c10 : r5 < r8
      · have hf := zif_t hf c10
        refine z_icmp_lt_t (tgt := 59) dX11_openersOf_53 (by decide) c10 ?_
        exact zW.sub (hJ11 x3 _ hE hf) [0, 1, 2, 3, 4] rfl rfl rfl rfl
      · have hf := zif_f hf c10
        refine z_icmp_lt_f (tgt := 59) dX11_openersOf_53 (by decide) c10 ?_
        obtain ⟨y14, ey14, hf⟩ := zl_some hf
        refine z_iincY (v := 1) (y := y14) (lv' := [(3, .int y14), (0, .ref 0), (1, .int i1), (2, .int i2), (4, .int x4)]) dX11_openersOf_56 rfl (by decide) (by decide) ey14 rfl ?_
        exact zW.sub (hJ11 y14 _ hE hf) [1, 2, 3, 0, 4] rfl rfl rfl rfl
theorem w_X11_openersOf {L : Nat} {xs : Nat → Int32} {fm : Bool} {h0 : Nat → va_E} {t : Nat × Nat × Nat} (hn1 : 64 ≤ t.1) (hn2 : t.1 ≤ 1000000) (d : Nat) {h : Nat → va_E} {S : zS} (hE : zE (zDc t.1) h0 S (h, t)) {v1 : Int32} {v2 : Int32} {R : Int32 × zS} (hf : f_X11_openersOf v1 v2 S = some R) : zC (ia_P0 L xs fm) (d + 4) 11043 [.ref 0, .int v1, .int v2] (h, t) (zQi (zDc t.1) h0 t R) := by
  refine zC_of mt_11043 nn_11043 (Nat.le_of_ble_eq_true rfl) ?_
  refine zW_lv (lv' := [(0, .ref 0), (1, .int v1), (2, .int v2)]) rfl ?_
  unfold f_X11_openersOf at hf
  refine z_aload_n dX11_openersOf_0 rfl ?_
  refine z_getC dX11_openersOf_1 tF_11_62 hE dc_0 rfl rfl ?_
  refine z_getC dX11_openersOf_4 tF_11_268 hE dc_19 rfl rfl ?_
  refine z_iload_n dX11_openersOf_7 rfl ?_
  refine z_bipush (v := 7) dX11_openersOf_8 (by decide) ?_
  refine z_imul dX11_openersOf_10 ?_
  refine z_iconst (v := 0) dX11_openersOf_11 (by decide) ?_
  refine z_iadd dX11_openersOf_12 ?_
  refine z_iload_n dX11_openersOf_13 rfl ?_
  obtain ⟨b1, hf⟩ := zchk hf
  obtain ⟨S2, eS2, hf⟩ := zl_some hf
  refine z_iastoreL (i := ((v1 * 7) + 0).toNatClampNeg) dX11_openersOf_14 hE dc_20 b1 rfl (fun h hE => ?_)
  rw [← eS2] at hE
  refine z_iconst (v := 0) dX11_openersOf_15 (by decide) ?_
  refine z_istore_n (lv' := [(3, .int 0), (0, .ref 0), (1, .int v1), (2, .int v2)]) dX11_openersOf_16 (by decide) rfl ?_
  refine z_iconst (v := 0) dX11_openersOf_17 (by decide) ?_
  refine z_istore (lv' := [(4, .int 0), (3, .int 0), (0, .ref 0), (1, .int v1), (2, .int v2)]) dX11_openersOf_18 (by decide) rfl ?_
  refine zW.sub (w_X11_openersOf_L20 hn1 hn2 d (fun q16 q17 S15 h hE hf => ?_) zN 0 0 S2 h hE hf) [2, 3, 4, 1, 0] rfl rfl rfl rfl
  try dsimp only at hf
  refine z_iload_n dX11_openersOf_65 rfl ?_
  have e_ := Option.some.inj hf
  subst e_
  exact z_ireturn dX11_openersOf_66 rfl ⟨h, rfl, rfl, hE⟩
def f_X11_openers (v1 : Int32) (v2 : Int32) (S : zS) : Option (Int32 × zS) :=
zb (f_X11_isJar v1 S) fun r2 S1 =>
if r2 = 0 then
some ((-1), S1)
else
if v2 < 0 then
some ((-1), S1)
else
if v2 ≤ 99 then
zb (f_X7_restart 19 S1) fun _ S7 =>
zb (f_X11_openersOf v1 v2 S7) fun r11 S10 =>
some (r11, S10)
else
some ((-1), S1)
theorem w_X11_openers {L : Nat} {xs : Nat → Int32} {fm : Bool} {h0 : Nat → va_E} {t : Nat × Nat × Nat} (hn1 : 64 ≤ t.1) (hn2 : t.1 ≤ 1000000) (d : Nat) {h : Nat → va_E} {S : zS} (hE : zE (zDc t.1) h0 S (h, t)) {v1 : Int32} {v2 : Int32} {R : Int32 × zS} (hf : f_X11_openers v1 v2 S = some R) : zC (ia_P0 L xs fm) (d + 5) 11042 [.ref 0, .int v1, .int v2] (h, t) (zQi (zDc t.1) h0 t R) := by
  refine zC_of mt_11042 nn_11042 (Nat.le_of_ble_eq_true rfl) ?_
  refine zW_lv (lv' := [(0, .ref 0), (1, .int v1), (2, .int v2)]) rfl ?_
  unfold f_X11_openers at hf
  refine z_aload_n dX11_openers_0 rfl ?_
  refine z_iload_n dX11_openers_1 rfl ?_
  obtain ⟨r2, S1, k3, hf⟩ := zb_some hf
  refine z_callVi dX11_openers_2 tM_11_178 mt_11016 (Nat.le_of_ble_eq_true rfl) rfl rfl (z_recv hE dc_0 rfl) rfl (ia_oks_le hn1 rfl) (Nat.le_of_ble_eq_true rfl) (w_X11_isJar hn1 hn2 (d + 3) hE k3) (fun h hE => ?_)
  by_cases c4 : r2 = 0
  · have hf := zif_t hf c4
    refine z_if_eq_t (tgt := 18) dX11_openers_5 (by decide) c4 ?_
    refine z_iconst (v := (-1)) dX11_openers_18 (by decide) ?_
    have e_ := Option.some.inj hf
    subst e_
    exact z_ireturn dX11_openers_19 rfl ⟨h, rfl, rfl, hE⟩
  · have hf := zif_f hf c4
    refine z_if_eq_f (tgt := 18) dX11_openers_5 (by decide) c4 ?_
    refine z_iload_n dX11_openers_8 rfl ?_
    by_cases c5 : v2 < 0
    · have hf := zif_t hf c5
      refine z_if_lt_t (tgt := 18) dX11_openers_9 (by decide) c5 ?_
      refine z_iconst (v := (-1)) dX11_openers_18 (by decide) ?_
      have e_ := Option.some.inj hf
      subst e_
      exact z_ireturn dX11_openers_19 rfl ⟨h, rfl, rfl, hE⟩
    · have hf := zif_f hf c5
      refine z_if_lt_f (tgt := 18) dX11_openers_9 (by decide) c5 ?_
      refine z_iload_n dX11_openers_12 rfl ?_
      refine z_bipush (v := 99) dX11_openers_13 (by decide) ?_
      by_cases c6 : v2 ≤ 99
      · have hf := zif_t hf c6
        refine z_icmp_le_t (tgt := 20) dX11_openers_15 (by decide) c6 ?_
        refine z_aload_n dX11_openers_20 rfl ?_
        refine z_getC dX11_openers_21 tF_11_62 hE dc_0 rfl rfl ?_
        obtain ⟨r8, S7, k9, hf⟩ := zb_some hf
        refine z_callVv dX11_openers_24 tM_11_142 mt_7001 (Nat.le_of_ble_eq_true rfl) rfl rfl (z_recv hE dc_19 rfl) rfl (ia_oks_le hn1 rfl) (Nat.le_of_ble_eq_true rfl) (w_X7_restart hn1 hn2 (d + 1) sc_19 hE k9) (fun h hE => ?_)
        refine z_aload_n dX11_openers_27 rfl ?_
        refine z_iload_n dX11_openers_28 rfl ?_
        refine z_iload_n dX11_openers_29 rfl ?_
        obtain ⟨r11, S10, k12, hf⟩ := zb_some hf
        refine z_callVi dX11_openers_30 tM_11_325 mt_11043 (Nat.le_of_ble_eq_true rfl) rfl rfl (z_recv hE dc_0 rfl) rfl (ia_oks_le hn1 rfl) (Nat.le_of_ble_eq_true rfl) (w_X11_openersOf hn1 hn2 (d + 0) hE k12) (fun h hE => ?_)
        have e_ := Option.some.inj hf
        subst e_
        exact z_ireturn dX11_openers_33 rfl ⟨h, rfl, rfl, hE⟩
      · have hf := zif_f hf c6
        refine z_icmp_le_f (tgt := 20) dX11_openers_15 (by decide) c6 ?_
        refine z_iconst (v := (-1)) dX11_openers_18 (by decide) ?_
        have e_ := Option.some.inj hf
        subst e_
        exact z_ireturn dX11_openers_19 rfl ⟨h, rfl, rfl, hE⟩
def f_X11_factory_L41 (ex : Int32 → zS → Option (Int32 × zS)) (i1 : Int32) (i2 : Int32) (i3 : Int32) : Nat → Int32 → zS → Option (Int32 × zS)
  | 0, _, _ => none
  | k + 1, x4, S =>
    if x4 < i2 then
    ex x4 S
    else
    zb (f_X11_openersOf i1 x4 S) fun r14 S13 =>
    if (r14 * 100) < ((S13.1 12 1) * i3) then
    zl (x4 + (-1)) fun (y17 : Int32) =>
    f_X11_factory_L41 ex i1 i2 i3 k y17 S13
    else
    some (x4, S13)
def f_X11_factory (v1 : Int32) (v2 : Int32) (v3 : Int32) (S : zS) : Option (Int32 × zS) :=
zb (f_X11_isJar v1 S) fun r2 S1 =>
if r2 = 0 then
some ((-1), S1)
else
if v2 < 0 then
some ((-1), S1)
else
if 99 < v2 then
some ((-1), S1)
else
if v3 < 0 then
some ((-1), S1)
else
if v3 ≤ 100 then
zb (f_X7_restart 19 S1) fun _ S9 =>
f_X11_factory_L41 (fun (q19 : Int32) (S18 : zS) =>
some ((-1), S18)) v1 v2 v3 zN 99 S9
else
some ((-1), S1)
theorem w_X11_factory_L41 {L : Nat} {xs : Nat → Int32} {fm : Bool} {h0 : Nat → va_E} {t : Nat × Nat × Nat} (hn1 : 64 ≤ t.1) (hn2 : t.1 ≤ 1000000) (d : Nat) {ex : Int32 → zS → Option (Int32 × zS)} {i1 : Int32} {i2 : Int32} {i3 : Int32} {R : Int32 × zS} (hex : ∀ (x4 : Int32) (S : zS) (h : Nat → va_E), zE (zDc t.1) h0 S (h, t) → ex x4 S = some R → zW (ia_P0 L xs fm) ia_nx (d + 4) 11 false cX11_factory 5 (some .int) 80 [(0, .ref 0), (1, .int i1), (2, .int i2), (3, .int i3), (4, .int x4)] [] (h, t) (zQi (zDc t.1) h0 t R)) : ∀ (k : Nat) (x4 : Int32) (S : zS) (h : Nat → va_E), zE (zDc t.1) h0 S (h, t) → f_X11_factory_L41 ex i1 i2 i3 k x4 S = some R → zW (ia_P0 L xs fm) ia_nx (d + 4) 11 false cX11_factory 5 (some .int) 41 [(0, .ref 0), (1, .int i1), (2, .int i2), (3, .int i3), (4, .int x4)] [] (h, t) (zQi (zDc t.1) h0 t R) := by
  intro k
  induction k with
  | zero => intro x4 S h hE hf; cases hf
  | succ k ih =>
    intro x4 S h hE hf
    unfold f_X11_factory_L41 at hf
    refine z_iload dX11_factory_41 rfl ?_
    refine z_iload_n dX11_factory_43 rfl ?_
    by_cases c12 : x4 < i2
    · have hf := zif_t hf c12
      refine z_icmp_lt_t (tgt := 80) dX11_factory_44 (by decide) c12 ?_
      exact zW.sub (hex x4 S _ hE hf) [0, 1, 2, 3, 4] rfl rfl rfl rfl
    · have hf := zif_f hf c12
      refine z_icmp_lt_f (tgt := 80) dX11_factory_44 (by decide) c12 ?_
      refine z_aload_n dX11_factory_47 rfl ?_
      refine z_iload_n dX11_factory_48 rfl ?_
      refine z_iload dX11_factory_49 rfl ?_
      obtain ⟨r14, S13, k15, hf⟩ := zb_some hf
      refine z_callVi dX11_factory_51 tM_11_325 mt_11043 (Nat.le_of_ble_eq_true rfl) rfl rfl (z_recv hE dc_0 rfl) rfl (ia_oks_le hn1 rfl) (Nat.le_of_ble_eq_true rfl) (w_X11_openersOf hn1 hn2 (d + 0) hE k15) (fun h hE => ?_)
      refine z_bipush (v := 100) dX11_factory_54 (by decide) ?_
      refine z_imul dX11_factory_56 ?_
      refine z_aload_n dX11_factory_57 rfl ?_
      refine z_getC dX11_factory_58 tF_11_42 hE dc_0 rfl rfl ?_
      refine z_getC dX11_factory_61 tF_11_153 hE dc_11 rfl rfl ?_
      refine z_iconst (v := 1) dX11_factory_64 (by decide) ?_
      refine z_ialoadL (i := 1) dX11_factory_65 hE dc_12 (by decide) (by decide) ?_
      refine z_iload_n dX11_factory_66 rfl ?_
      refine z_imul dX11_factory_67 ?_
      by_cases c16 : (r14 * 100) < ((S13.1 12 1) * i3)
      · have hf := zif_t hf c16
        refine z_icmp_lt_t (tgt := 74) dX11_factory_68 (by decide) c16 ?_
        obtain ⟨y17, ey17, hf⟩ := zl_some hf
        refine z_iincY (v := (-1)) (y := y17) (lv' := [(4, .int y17), (0, .ref 0), (1, .int i1), (2, .int i2), (3, .int i3)]) dX11_factory_74 rfl (by decide) (by decide) ey17 rfl ?_
        refine z_goto (tgt := 41) dX11_factory_77 (by decide) ?_
        exact zW.sub (ih y17 S13 _ hE hf) [1, 2, 3, 4, 0] rfl rfl rfl rfl
      · have hf := zif_f hf c16
        refine z_icmp_lt_f (tgt := 74) dX11_factory_68 (by decide) c16 ?_
        refine z_iload dX11_factory_71 rfl ?_
        have e_ := Option.some.inj hf
        subst e_
        exact z_ireturn dX11_factory_73 rfl ⟨h, rfl, rfl, hE⟩
theorem w_X11_factory {L : Nat} {xs : Nat → Int32} {fm : Bool} {h0 : Nat → va_E} {t : Nat × Nat × Nat} (hn1 : 64 ≤ t.1) (hn2 : t.1 ≤ 1000000) (d : Nat) {h : Nat → va_E} {S : zS} (hE : zE (zDc t.1) h0 S (h, t)) {v1 : Int32} {v2 : Int32} {v3 : Int32} {R : Int32 × zS} (hf : f_X11_factory v1 v2 v3 S = some R) : zC (ia_P0 L xs fm) (d + 5) 11044 [.ref 0, .int v1, .int v2, .int v3] (h, t) (zQi (zDc t.1) h0 t R) := by
  refine zC_of mt_11044 nn_11044 (Nat.le_of_ble_eq_true rfl) ?_
  refine zW_lv (lv' := [(0, .ref 0), (1, .int v1), (2, .int v2), (3, .int v3)]) rfl ?_
  unfold f_X11_factory at hf
  refine z_aload_n dX11_factory_0 rfl ?_
  refine z_iload_n dX11_factory_1 rfl ?_
  obtain ⟨r2, S1, k3, hf⟩ := zb_some hf
  refine z_callVi dX11_factory_2 tM_11_178 mt_11016 (Nat.le_of_ble_eq_true rfl) rfl rfl (z_recv hE dc_0 rfl) rfl (ia_oks_le hn1 rfl) (Nat.le_of_ble_eq_true rfl) (w_X11_isJar hn1 hn2 (d + 3) hE k3) (fun h hE => ?_)
  by_cases c4 : r2 = 0
  · have hf := zif_t hf c4
    refine z_if_eq_t (tgt := 28) dX11_factory_5 (by decide) c4 ?_
    refine z_iconst (v := (-1)) dX11_factory_28 (by decide) ?_
    have e_ := Option.some.inj hf
    subst e_
    exact z_ireturn dX11_factory_29 rfl ⟨h, rfl, rfl, hE⟩
  · have hf := zif_f hf c4
    refine z_if_eq_f (tgt := 28) dX11_factory_5 (by decide) c4 ?_
    refine z_iload_n dX11_factory_8 rfl ?_
    by_cases c5 : v2 < 0
    · have hf := zif_t hf c5
      refine z_if_lt_t (tgt := 28) dX11_factory_9 (by decide) c5 ?_
      refine z_iconst (v := (-1)) dX11_factory_28 (by decide) ?_
      have e_ := Option.some.inj hf
      subst e_
      exact z_ireturn dX11_factory_29 rfl ⟨h, rfl, rfl, hE⟩
    · have hf := zif_f hf c5
      refine z_if_lt_f (tgt := 28) dX11_factory_9 (by decide) c5 ?_
      refine z_iload_n dX11_factory_12 rfl ?_
      refine z_bipush (v := 99) dX11_factory_13 (by decide) ?_
      by_cases c6 : 99 < v2
      · have hf := zif_t hf c6
        refine z_icmp_gt_t (tgt := 28) dX11_factory_15 (by decide) c6 ?_
        refine z_iconst (v := (-1)) dX11_factory_28 (by decide) ?_
        have e_ := Option.some.inj hf
        subst e_
        exact z_ireturn dX11_factory_29 rfl ⟨h, rfl, rfl, hE⟩
      · have hf := zif_f hf c6
        refine z_icmp_gt_f (tgt := 28) dX11_factory_15 (by decide) c6 ?_
        refine z_iload_n dX11_factory_18 rfl ?_
        by_cases c7 : v3 < 0
        · have hf := zif_t hf c7
          refine z_if_lt_t (tgt := 28) dX11_factory_19 (by decide) c7 ?_
          refine z_iconst (v := (-1)) dX11_factory_28 (by decide) ?_
          have e_ := Option.some.inj hf
          subst e_
          exact z_ireturn dX11_factory_29 rfl ⟨h, rfl, rfl, hE⟩
        · have hf := zif_f hf c7
          refine z_if_lt_f (tgt := 28) dX11_factory_19 (by decide) c7 ?_
          refine z_iload_n dX11_factory_22 rfl ?_
          refine z_bipush (v := 100) dX11_factory_23 (by decide) ?_
          by_cases c8 : v3 ≤ 100
          · have hf := zif_t hf c8
            refine z_icmp_le_t (tgt := 30) dX11_factory_25 (by decide) c8 ?_
            refine z_aload_n dX11_factory_30 rfl ?_
            refine z_getC dX11_factory_31 tF_11_62 hE dc_0 rfl rfl ?_
            obtain ⟨r10, S9, k11, hf⟩ := zb_some hf
            refine z_callVv dX11_factory_34 tM_11_142 mt_7001 (Nat.le_of_ble_eq_true rfl) rfl rfl (z_recv hE dc_19 rfl) rfl (ia_oks_le hn1 rfl) (Nat.le_of_ble_eq_true rfl) (w_X7_restart hn1 hn2 (d + 1) sc_19 hE k11) (fun h hE => ?_)
            refine z_bipush (v := 99) dX11_factory_37 (by decide) ?_
            refine z_istore (lv' := [(4, .int 99), (0, .ref 0), (1, .int v1), (2, .int v2), (3, .int v3)]) dX11_factory_39 (by decide) rfl ?_
            refine zW.sub (w_X11_factory_L41 hn1 hn2 d (fun q19 S18 h hE hf => ?_) zN 99 S9 h hE hf) [1, 2, 3, 4, 0] rfl rfl rfl rfl
            try dsimp only at hf
            refine z_iconst (v := (-1)) dX11_factory_80 (by decide) ?_
            have e_ := Option.some.inj hf
            subst e_
            exact z_ireturn dX11_factory_81 rfl ⟨h, rfl, rfl, hE⟩
          · have hf := zif_f hf c8
            refine z_icmp_le_f (tgt := 30) dX11_factory_25 (by decide) c8 ?_
            refine z_iconst (v := (-1)) dX11_factory_28 (by decide) ?_
            have e_ := Option.some.inj hf
            subst e_
            exact z_ireturn dX11_factory_29 rfl ⟨h, rfl, rfl, hE⟩
def f_X3_adds (v1 : Int32) (v2 : Int32) (S : zS) : Option (Int32 × zS) :=
if 20 ≤ (S.1 37 1) then
some (0, S)
else
if (S.1 37 2) = 0 then
if ia_in (S.1 37 1) 20 = true then
zl (sV S 38 ((S.1 37 1).toNatClampNeg) v1) fun S4 =>
zl (sV S4 37 1 ((S4.1 37 1) + 1)) fun S5 =>
if ia_fit .boolean (.int v2) = true then
zl (sV S5 37 2 v2) fun S6 =>
some (1, S6)
else none
else none
else
some (0, S)
theorem w_X3_adds {L : Nat} {xs : Nat → Int32} {fm : Bool} {h0 : Nat → va_E} {t : Nat × Nat × Nat} (hn1 : 64 ≤ t.1) (hn2 : t.1 ≤ 1000000) (d : Nat) {h : Nat → va_E} {S : zS} (hE : zE (zDc t.1) h0 S (h, t)) {v1 : Int32} {v2 : Int32} {R : Int32 × zS} (hf : f_X3_adds v1 v2 S = some R) : zC (ia_P0 L xs fm) (d + 1) 3002 [.ref 37, .int v1, .int v2] (h, t) (zQi (zDc t.1) h0 t R) := by
  refine zC_of mt_3002 nn_3002 (Nat.le_of_ble_eq_true rfl) ?_
  refine zW_lv (lv' := [(0, .ref 37), (1, .int v1), (2, .int v2)]) rfl ?_
  unfold f_X3_adds at hf
  refine z_aload_n dX3_adds_0 rfl ?_
  refine z_getI dX3_adds_1 tF_3_15 hE dc_37 rfl rfl ?_
  refine z_bipush (v := 20) dX3_adds_4 (by decide) ?_
  by_cases c1 : 20 ≤ (S.1 37 1)
  · have hf := zif_t hf c1
    refine z_icmp_ge_t (tgt := 16) dX3_adds_6 (by decide) c1 ?_
    refine z_iconst (v := 0) dX3_adds_16 (by decide) ?_
    have e_ := Option.some.inj hf
    subst e_
    exact z_zreturn dX3_adds_17 rfl (by decide) ⟨h, rfl, rfl, hE⟩
  · have hf := zif_f hf c1
    refine z_icmp_ge_f (tgt := 16) dX3_adds_6 (by decide) c1 ?_
    refine z_aload_n dX3_adds_9 rfl ?_
    refine z_getI dX3_adds_10 tF_3_19 hE dc_37 rfl rfl ?_
    by_cases c2 : (S.1 37 2) = 0
    · have hf := zif_t hf c2
      refine z_if_eq_t (tgt := 18) dX3_adds_13 (by decide) c2 ?_
      refine z_aload_n dX3_adds_18 rfl ?_
      refine z_getC dX3_adds_19 tF_3_9 hE dc_37 rfl rfl ?_
      refine z_aload_n dX3_adds_22 rfl ?_
      refine z_getI dX3_adds_23 tF_3_15 hE dc_37 rfl rfl ?_
      refine z_iload_n dX3_adds_26 rfl ?_
      obtain ⟨b3, hf⟩ := zchk hf
      obtain ⟨S4, eS4, hf⟩ := zl_some hf
      refine z_iastoreL (i := (S.1 37 1).toNatClampNeg) dX3_adds_27 hE dc_38 b3 rfl (fun h hE => ?_)
      rw [← eS4] at hE
      refine z_aload_n dX3_adds_28 rfl ?_
      refine z_dup dX3_adds_29 rfl ?_
      refine z_getI dX3_adds_30 tF_3_15 hE dc_37 rfl rfl ?_
      refine z_iconst (v := 1) dX3_adds_33 (by decide) ?_
      refine z_iadd dX3_adds_34 ?_
      obtain ⟨S5, eS5, hf⟩ := zl_some hf
      refine z_putI dX3_adds_35 tF_3_15 hE dc_37 rfl rfl rfl rfl (fun h hE => ?_)
      rw [← eS5] at hE
      refine z_aload_n dX3_adds_38 rfl ?_
      refine z_iload_n dX3_adds_39 rfl ?_
      obtain ⟨b7, hf⟩ := zchk hf
      obtain ⟨S6, eS6, hf⟩ := zl_some hf
      refine z_putI dX3_adds_40 tF_3_19 hE dc_37 rfl rfl b7 rfl (fun h hE => ?_)
      rw [← eS6] at hE
      refine z_iconst (v := 1) dX3_adds_43 (by decide) ?_
      have e_ := Option.some.inj hf
      subst e_
      exact z_zreturn dX3_adds_44 rfl (by decide) ⟨h, rfl, rfl, hE⟩
    · have hf := zif_f hf c2
      refine z_if_eq_f (tgt := 18) dX3_adds_13 (by decide) c2 ?_
      refine z_iconst (v := 0) dX3_adds_16 (by decide) ?_
      have e_ := Option.some.inj hf
      subst e_
      exact z_zreturn dX3_adds_17 rfl (by decide) ⟨h, rfl, rfl, hE⟩
def f_X11_tried (v1 : Int32) (v2 : Int32) (S : zS) : Option (Int32 × zS) :=
if v1 < 0 then
some ((-1), S)
else
if 999 < v1 then
some ((-1), S)
else
zb (f_X3_adds v1 v2 S) fun r4 S3 =>
if ¬ r4 = 0 then
some (S3.1 37 1, S3)
else
some ((-1), S3)
theorem w_X11_tried {L : Nat} {xs : Nat → Int32} {fm : Bool} {h0 : Nat → va_E} {t : Nat × Nat × Nat} (hn1 : 64 ≤ t.1) (hn2 : t.1 ≤ 1000000) (d : Nat) {h : Nat → va_E} {S : zS} (hE : zE (zDc t.1) h0 S (h, t)) {v1 : Int32} {v2 : Int32} {R : Int32 × zS} (hf : f_X11_tried v1 v2 S = some R) : zC (ia_P0 L xs fm) (d + 2) 11045 [.ref 0, .int v1, .int v2] (h, t) (zQi (zDc t.1) h0 t R) := by
  refine zC_of mt_11045 nn_11045 (Nat.le_of_ble_eq_true rfl) ?_
  refine zW_lv (lv' := [(0, .ref 0), (1, .int v1), (2, .int v2)]) rfl ?_
  unfold f_X11_tried at hf
  refine z_iload_n dX11_tried_0 rfl ?_
  by_cases c1 : v1 < 0
  · have hf := zif_t hf c1
    refine z_if_lt_t (tgt := 23) dX11_tried_1 (by decide) c1 ?_
    refine z_iconst (v := (-1)) dX11_tried_23 (by decide) ?_
    have e_ := Option.some.inj hf
    subst e_
    exact z_ireturn dX11_tried_24 rfl ⟨h, rfl, rfl, hE⟩
  · have hf := zif_f hf c1
    refine z_if_lt_f (tgt := 23) dX11_tried_1 (by decide) c1 ?_
    refine z_iload_n dX11_tried_4 rfl ?_
    refine z_sipush (v := 999) dX11_tried_5 (by decide) ?_
    by_cases c2 : 999 < v1
    · have hf := zif_t hf c2
      refine z_icmp_gt_t (tgt := 23) dX11_tried_8 (by decide) c2 ?_
      refine z_iconst (v := (-1)) dX11_tried_23 (by decide) ?_
      have e_ := Option.some.inj hf
      subst e_
      exact z_ireturn dX11_tried_24 rfl ⟨h, rfl, rfl, hE⟩
    · have hf := zif_f hf c2
      refine z_icmp_gt_f (tgt := 23) dX11_tried_8 (by decide) c2 ?_
      refine z_aload_n dX11_tried_11 rfl ?_
      refine z_getC dX11_tried_12 tF_11_89 hE dc_0 rfl rfl ?_
      refine z_iload_n dX11_tried_15 rfl ?_
      refine z_iload_n dX11_tried_16 rfl ?_
      obtain ⟨r4, S3, k5, hf⟩ := zb_some hf
      refine z_callVi dX11_tried_17 tM_11_328 mt_3002 (Nat.le_of_ble_eq_true rfl) rfl rfl (z_recv hE dc_37 rfl) rfl (ia_oks_le hn1 rfl) (Nat.le_of_ble_eq_true rfl) (w_X3_adds hn1 hn2 (d + 0) hE k5) (fun h hE => ?_)
      by_cases c6 : ¬ r4 = 0
      · have hf := zif_t hf c6
        refine z_if_ne_t (tgt := 25) dX11_tried_20 (by decide) c6 ?_
        refine z_aload_n dX11_tried_25 rfl ?_
        refine z_getC dX11_tried_26 tF_11_89 hE dc_0 rfl rfl ?_
        refine z_getI dX11_tried_29 tF_11_332 hE dc_37 rfl rfl ?_
        have e_ := Option.some.inj hf
        subst e_
        exact z_ireturn dX11_tried_32 rfl ⟨h, rfl, rfl, hE⟩
      · have hf := zif_f hf c6
        refine z_if_ne_f (tgt := 25) dX11_tried_20 (by decide) c6 ?_
        refine z_iconst (v := (-1)) dX11_tried_23 (by decide) ?_
        have e_ := Option.some.inj hf
        subst e_
        exact z_ireturn dX11_tried_24 rfl ⟨h, rfl, rfl, hE⟩
def f_X11_forgive  (S : zS) : Option (Int32 × zS) :=
if ¬ (S.1 37 1) = 0 then
zb (f_X3_clear S) fun _ S2 =>
some (1, S2)
else
some (0, S)
theorem w_X11_forgive {L : Nat} {xs : Nat → Int32} {fm : Bool} {h0 : Nat → va_E} {t : Nat × Nat × Nat} (hn1 : 64 ≤ t.1) (hn2 : t.1 ≤ 1000000) (d : Nat) {h : Nat → va_E} {S : zS} (hE : zE (zDc t.1) h0 S (h, t)) {R : Int32 × zS} (hf : f_X11_forgive  S = some R) : zC (ia_P0 L xs fm) (d + 2) 11046 [.ref 0] (h, t) (zQi (zDc t.1) h0 t R) := by
  refine zC_of mt_11046 nn_11046 (Nat.le_of_ble_eq_true rfl) ?_
  refine zW_lv (lv' := [(0, .ref 0)]) rfl ?_
  unfold f_X11_forgive at hf
  refine z_aload_n dX11_forgive_0 rfl ?_
  refine z_getC dX11_forgive_1 tF_11_89 hE dc_0 rfl rfl ?_
  refine z_getI dX11_forgive_4 tF_11_332 hE dc_37 rfl rfl ?_
  by_cases c1 : ¬ (S.1 37 1) = 0
  · have hf := zif_t hf c1
    refine z_if_ne_t (tgt := 12) dX11_forgive_7 (by decide) c1 ?_
    refine z_aload_n dX11_forgive_12 rfl ?_
    refine z_getC dX11_forgive_13 tF_11_89 hE dc_0 rfl rfl ?_
    obtain ⟨r3, S2, k4, hf⟩ := zb_some hf
    refine z_callVv dX11_forgive_16 tM_11_148 mt_3001 (Nat.le_of_ble_eq_true rfl) rfl rfl (z_recv hE dc_37 rfl) rfl (ia_oks_le hn1 rfl) (Nat.le_of_ble_eq_true rfl) (w_X3_clear hn1 hn2 (d + 0) hE k4) (fun h hE => ?_)
    refine z_iconst (v := 1) dX11_forgive_19 (by decide) ?_
    have e_ := Option.some.inj hf
    subst e_
    exact z_zreturn dX11_forgive_20 rfl (by decide) ⟨h, rfl, rfl, hE⟩
  · have hf := zif_f hf c1
    refine z_if_ne_f (tgt := 12) dX11_forgive_7 (by decide) c1 ?_
    refine z_iconst (v := 0) dX11_forgive_10 (by decide) ?_
    have e_ := Option.some.inj hf
    subst e_
    exact z_zreturn dX11_forgive_11 rfl (by decide) ⟨h, rfl, rfl, hE⟩
def f_X3_holdNow_L4 (ex : Int32 → Int32 → zS → Option (Int32 × zS)) (i1 : Int32) : Nat → Int32 → Int32 → zS → Option (Int32 × zS)
  | 0, _, _, _ => none
  | k + 1, x2, x3, S =>
    if (S.1 37 1) ≤ x3 then
    ex x2 x3 S
    else
    zl (fun (u4 : Unit) =>
    if ia_in x3 20 = true then
    zl (fun (q8 : Int32) =>
    if q8 = 0 then
    if ia_in x3 20 = true then
    zl (if 0 < (x2 - ((S.1 38 x3.toNatClampNeg) / 10)) then (x2 - ((S.1 38 x3.toNatClampNeg) / 10)) else 0) fun (y11 : Int32) =>
    zl (x3 + 1) fun (y12 : Int32) =>
    f_X3_holdNow_L4 ex i1 k y11 y12 S
    else none
    else
    some ((-1), S)) fun J7 =>
    if (S.1 38 x3.toNatClampNeg) < x2 then
    J7 0
    else
    J7 1
    else none) fun J3 =>
    if (S.1 37 2) = 0 then
    J3 ()
    else
    if ¬ x3 = ((S.1 37 1) - 1) then
    J3 ()
    else
    if ia_in x3 20 = true then
    zl (fun (q17 : Int32) =>
    if q17 = 1 then
    zl (x3 + 1) fun (y19 : Int32) =>
    f_X3_holdNow_L4 ex i1 k x2 y19 S
    else
    some ((-1), S)) fun J16 =>
    if (S.1 38 x3.toNatClampNeg) < x2 then
    J16 0
    else
    J16 1
    else none
def f_X3_holdNow (v1 : Int32) (S : zS) : Option (Int32 × zS) :=
f_X3_holdNow_L4 (fun (q21 : Int32) (q22 : Int32) (S20 : zS) =>
some (q21, S20)) v1 zN v1 0 S
theorem w_X3_holdNow_L4 {L : Nat} {xs : Nat → Int32} {fm : Bool} {h0 : Nat → va_E} {t : Nat × Nat × Nat} (hn1 : 64 ≤ t.1) (hn2 : t.1 ≤ 1000000) (d : Nat) {ex : Int32 → Int32 → zS → Option (Int32 × zS)} {i1 : Int32} {R : Int32 × zS} (hex : ∀ (x2 : Int32) (x3 : Int32) (S : zS) (h : Nat → va_E), zE (zDc t.1) h0 S (h, t) → ex x2 x3 S = some R → zW (ia_P0 L xs fm) ia_nx (d + 0) 3 false cX3_holdNow 5 (some .int) 85 [(0, .ref 37), (1, .int i1), (2, .int x2), (3, .int x3)] [] (h, t) (zQi (zDc t.1) h0 t R)) : ∀ (k : Nat) (x2 : Int32) (x3 : Int32) (S : zS) (h : Nat → va_E), zE (zDc t.1) h0 S (h, t) → f_X3_holdNow_L4 ex i1 k x2 x3 S = some R → zW (ia_P0 L xs fm) ia_nx (d + 0) 3 false cX3_holdNow 5 (some .int) 4 [(0, .ref 37), (1, .int i1), (2, .int x2), (3, .int x3)] [] (h, t) (zQi (zDc t.1) h0 t R) := by
  intro k
  induction k with
  | zero => intro x2 x3 S h hE hf; cases hf
  | succ k ih =>
    intro x2 x3 S h hE hf
    unfold f_X3_holdNow_L4 at hf
    refine z_iload_n dX3_holdNow_4 rfl ?_
    refine z_aload_n dX3_holdNow_5 rfl ?_
    refine z_getI dX3_holdNow_6 tF_3_15 hE dc_37 rfl rfl ?_
    by_cases c1 : (S.1 37 1) ≤ x3
    · have hf := zif_t hf c1
      refine z_icmp_ge_t (tgt := 85) dX3_holdNow_9 (by decide) c1 ?_
      exact zW.sub (hex x2 x3 S _ hE hf) [0, 1, 2, 3] rfl rfl rfl rfl
    · have hf := zif_f hf c1
      refine z_icmp_ge_f (tgt := 85) dX3_holdNow_9 (by decide) c1 ?_
      refine z_aload_n dX3_holdNow_12 rfl ?_
      refine z_getI dX3_holdNow_13 tF_3_19 hE dc_37 rfl rfl ?_
      obtain ⟨J3, eJ3, hf⟩ := zl_some hf
      have hJ3 : ∀ (u4 : Unit) (h : Nat → va_E), zE (zDc t.1) h0 S (h, t) → J3 u4 = some R → zW (ia_P0 L xs fm) ia_nx (d + 0) 3 false cX3_holdNow 5 (some .int) 33 [(0, .ref 37), (1, .int i1), (2, .int x2), (3, .int x3)] [] (h, t) (zQi (zDc t.1) h0 t R) := by
        intro u4 h hE hf
        rw [eJ3] at hf
        refine z_iconst (v := 0) dX3_holdNow_33 (by decide) ?_
        refine z_istore (lv' := [(4, .int 0), (0, .ref 37), (1, .int i1), (2, .int x2), (3, .int x3)]) dX3_holdNow_34 (by decide) rfl ?_
        refine z_aload_n dX3_holdNow_36 rfl ?_
        refine z_getC dX3_holdNow_37 tF_3_9 hE dc_37 rfl rfl ?_
        refine z_iload_n dX3_holdNow_40 rfl ?_
        obtain ⟨b5, hf⟩ := zchk hf
        refine z_ialoadL dX3_holdNow_41 hE dc_38 b5 rfl ?_
        refine z_iload_n dX3_holdNow_42 rfl ?_
        obtain ⟨J7, eJ7, hf⟩ := zl_some hf
        have hJ7 : ∀ (q8 : Int32) (h : Nat → va_E), zE (zDc t.1) h0 S (h, t) → J7 q8 = some R → zW (ia_P0 L xs fm) ia_nx (d + 0) 3 false cX3_holdNow 5 (some .int) 51 [(0, .ref 37), (1, .int i1), (2, .int x2), (3, .int x3), (4, .int 0)] [.int q8] (h, t) (zQi (zDc t.1) h0 t R) := by
          intro q8 h hE hf
          rw [eJ7] at hf
          refine z_iload dX3_holdNow_51 rfl ?_
          by_cases c9 : q8 = 0
          · have hf := zif_t hf c9
            refine z_icmp_eq_t (tgt := 58) dX3_holdNow_53 (by decide) c9 ?_
            refine z_iload dX3_holdNow_58 rfl ?_
            refine z_if_ne_f (tgt := 79) dX3_holdNow_60 (by decide) (by decide) ?_
            refine z_iconst (v := 0) dX3_holdNow_63 (by decide) ?_
            refine z_iload_n dX3_holdNow_64 rfl ?_
            refine z_aload_n dX3_holdNow_65 rfl ?_
            refine z_getC dX3_holdNow_66 tF_3_9 hE dc_37 rfl rfl ?_
            refine z_iload_n dX3_holdNow_69 rfl ?_
            obtain ⟨b10, hf⟩ := zchk hf
            refine z_ialoadL dX3_holdNow_70 hE dc_38 b10 rfl ?_
            refine z_bipush (v := 10) dX3_holdNow_71 (by decide) ?_
            refine z_idiv dX3_holdNow_73 (by decide) ?_
            refine z_isub dX3_holdNow_74 ?_
            refine z_mmax dX3_holdNow_75 tM_3_23 (Nat.le_of_ble_eq_true rfl) ?_
            obtain ⟨y11, ey11, hf⟩ := zl_some hf
            refine z_topi ey11 ?_
            refine z_istore_n (lv' := [(2, .int y11), (0, .ref 37), (1, .int i1), (3, .int x3), (4, .int 0)]) dX3_holdNow_78 (by decide) rfl ?_
            obtain ⟨y12, ey12, hf⟩ := zl_some hf
            refine z_iincY (v := 1) (y := y12) (lv' := [(3, .int y12), (2, .int y11), (0, .ref 37), (1, .int i1), (4, .int 0)]) dX3_holdNow_79 rfl (by decide) (by decide) ey12 rfl ?_
            refine z_goto (tgt := 4) dX3_holdNow_82 (by decide) ?_
            exact zW.sub (ih y11 y12 S _ hE hf) [2, 3, 1, 0] rfl rfl rfl rfl
          · have hf := zif_f hf c9
            refine z_icmp_eq_f (tgt := 58) dX3_holdNow_53 (by decide) c9 ?_
            refine z_iconst (v := (-1)) dX3_holdNow_56 (by decide) ?_
            have e_ := Option.some.inj hf
            subst e_
            exact z_ireturn dX3_holdNow_57 rfl ⟨h, rfl, rfl, hE⟩
        by_cases c6 : (S.1 38 x3.toNatClampNeg) < x2
        · have hf := zif_t hf c6
          refine z_icmp_lt_t (tgt := 50) dX3_holdNow_43 (by decide) c6 ?_
          refine z_iconst (v := 0) dX3_holdNow_50 (by decide) ?_
          exact zW.sub (hJ7 0 _ hE hf) [1, 2, 3, 4, 0] rfl rfl rfl rfl
        · have hf := zif_f hf c6
          refine z_icmp_lt_f (tgt := 50) dX3_holdNow_43 (by decide) c6 ?_
          refine z_iconst (v := 1) dX3_holdNow_46 (by decide) ?_
          refine z_goto (tgt := 51) dX3_holdNow_47 (by decide) ?_
          exact zW.sub (hJ7 1 _ hE hf) [1, 2, 3, 4, 0] rfl rfl rfl rfl
      by_cases c2 : (S.1 37 2) = 0
      · have hf := zif_t hf c2
        refine z_if_eq_t (tgt := 33) dX3_holdNow_16 (by decide) c2 ?_
        exact zW.sub (hJ3 () _ hE hf) [0, 1, 2, 3] rfl rfl rfl rfl
      · have hf := zif_f hf c2
        refine z_if_eq_f (tgt := 33) dX3_holdNow_16 (by decide) c2 ?_
        refine z_iload_n dX3_holdNow_19 rfl ?_
        refine z_aload_n dX3_holdNow_20 rfl ?_
        refine z_getI dX3_holdNow_21 tF_3_15 hE dc_37 rfl rfl ?_
        refine z_iconst (v := 1) dX3_holdNow_24 (by decide) ?_
        refine z_isub dX3_holdNow_25 ?_
        by_cases c13 : ¬ x3 = ((S.1 37 1) - 1)
        · have hf := zif_t hf c13
          refine z_icmp_ne_t (tgt := 33) dX3_holdNow_26 (by decide) c13 ?_
          exact zW.sub (hJ3 () _ hE hf) [0, 1, 2, 3] rfl rfl rfl rfl
        · have hf := zif_f hf c13
          refine z_icmp_ne_f (tgt := 33) dX3_holdNow_26 (by decide) c13 ?_
          refine z_iconst (v := 1) dX3_holdNow_29 (by decide) ?_
          refine z_goto (tgt := 34) dX3_holdNow_30 (by decide) ?_
          refine z_istore (lv' := [(4, .int 1), (0, .ref 37), (1, .int i1), (2, .int x2), (3, .int x3)]) dX3_holdNow_34 (by decide) rfl ?_
          refine z_aload_n dX3_holdNow_36 rfl ?_
          refine z_getC dX3_holdNow_37 tF_3_9 hE dc_37 rfl rfl ?_
          refine z_iload_n dX3_holdNow_40 rfl ?_
          obtain ⟨b14, hf⟩ := zchk hf
          refine z_ialoadL dX3_holdNow_41 hE dc_38 b14 rfl ?_
          refine z_iload_n dX3_holdNow_42 rfl ?_
          obtain ⟨J16, eJ16, hf⟩ := zl_some hf
          have hJ16 : ∀ (q17 : Int32) (h : Nat → va_E), zE (zDc t.1) h0 S (h, t) → J16 q17 = some R → zW (ia_P0 L xs fm) ia_nx (d + 0) 3 false cX3_holdNow 5 (some .int) 51 [(0, .ref 37), (1, .int i1), (2, .int x2), (3, .int x3), (4, .int 1)] [.int q17] (h, t) (zQi (zDc t.1) h0 t R) := by
            intro q17 h hE hf
            rw [eJ16] at hf
            refine z_iload dX3_holdNow_51 rfl ?_
            by_cases c18 : q17 = 1
            · have hf := zif_t hf c18
              refine z_icmp_eq_t (tgt := 58) dX3_holdNow_53 (by decide) c18 ?_
              refine z_iload dX3_holdNow_58 rfl ?_
              refine z_if_ne_t (tgt := 79) dX3_holdNow_60 (by decide) (by decide) ?_
              obtain ⟨y19, ey19, hf⟩ := zl_some hf
              refine z_iincY (v := 1) (y := y19) (lv' := [(3, .int y19), (0, .ref 37), (1, .int i1), (2, .int x2), (4, .int 1)]) dX3_holdNow_79 rfl (by decide) (by decide) ey19 rfl ?_
              refine z_goto (tgt := 4) dX3_holdNow_82 (by decide) ?_
              exact zW.sub (ih x2 y19 S _ hE hf) [1, 2, 3, 0] rfl rfl rfl rfl
            · have hf := zif_f hf c18
              refine z_icmp_eq_f (tgt := 58) dX3_holdNow_53 (by decide) c18 ?_
              refine z_iconst (v := (-1)) dX3_holdNow_56 (by decide) ?_
              have e_ := Option.some.inj hf
              subst e_
              exact z_ireturn dX3_holdNow_57 rfl ⟨h, rfl, rfl, hE⟩
          by_cases c15 : (S.1 38 x3.toNatClampNeg) < x2
          · have hf := zif_t hf c15
            refine z_icmp_lt_t (tgt := 50) dX3_holdNow_43 (by decide) c15 ?_
            refine z_iconst (v := 0) dX3_holdNow_50 (by decide) ?_
            exact zW.sub (hJ16 0 _ hE hf) [1, 2, 3, 4, 0] rfl rfl rfl rfl
          · have hf := zif_f hf c15
            refine z_icmp_lt_f (tgt := 50) dX3_holdNow_43 (by decide) c15 ?_
            refine z_iconst (v := 1) dX3_holdNow_46 (by decide) ?_
            refine z_goto (tgt := 51) dX3_holdNow_47 (by decide) ?_
            exact zW.sub (hJ16 1 _ hE hf) [1, 2, 3, 4, 0] rfl rfl rfl rfl
theorem w_X3_holdNow {L : Nat} {xs : Nat → Int32} {fm : Bool} {h0 : Nat → va_E} {t : Nat × Nat × Nat} (hn1 : 64 ≤ t.1) (hn2 : t.1 ≤ 1000000) (d : Nat) {h : Nat → va_E} {S : zS} (hE : zE (zDc t.1) h0 S (h, t)) {v1 : Int32} {R : Int32 × zS} (hf : f_X3_holdNow v1 S = some R) : zC (ia_P0 L xs fm) (d + 1) 3004 [.ref 37, .int v1] (h, t) (zQi (zDc t.1) h0 t R) := by
  refine zC_of mt_3004 nn_3004 (Nat.le_of_ble_eq_true rfl) ?_
  refine zW_lv (lv' := [(0, .ref 37), (1, .int v1)]) rfl ?_
  unfold f_X3_holdNow at hf
  refine z_iload_n dX3_holdNow_0 rfl ?_
  refine z_istore_n (lv' := [(2, .int v1), (0, .ref 37), (1, .int v1)]) dX3_holdNow_1 (by decide) rfl ?_
  refine z_iconst (v := 0) dX3_holdNow_2 (by decide) ?_
  refine z_istore_n (lv' := [(3, .int 0), (2, .int v1), (0, .ref 37), (1, .int v1)]) dX3_holdNow_3 (by decide) rfl ?_
  refine zW.sub (w_X3_holdNow_L4 hn1 hn2 d (fun q21 q22 S20 h hE hf => ?_) zN v1 0 S h hE hf) [2, 3, 1, 0] rfl rfl rfl rfl
  try dsimp only at hf
  refine z_iload_n dX3_holdNow_85 rfl ?_
  have e_ := Option.some.inj hf
  subst e_
  exact z_ireturn dX3_holdNow_86 rfl ⟨h, rfl, rfl, hE⟩
def f_X3_holdsOpenedBy_L4 (ex : Int32 → Int32 → zS → Option (Int32 × zS)) (i1 : Int32) : Nat → Int32 → Int32 → zS → Option (Int32 × zS)
  | 0, _, _, _ => none
  | k + 1, x2, x3, S =>
    if 300 < x3 then
    ex x2 x3 S
    else
    zb (f_X3_holdNow x3 S) fun r3 S2 =>
    zl (fun (q7 : Int32) =>
    zl (x3 + 1) fun (y8 : Int32) =>
    f_X3_holdsOpenedBy_L4 ex i1 k q7 y8 S2) fun J6 =>
    if r3 = (-1) then
    J6 x2
    else
    if i1 < r3 then
    J6 x2
    else
    zl (x2 + 1) fun (y10 : Int32) =>
    J6 y10
def f_X3_holdsOpenedBy (v1 : Int32) (S : zS) : Option (Int32 × zS) :=
f_X3_holdsOpenedBy_L4 (fun (q12 : Int32) (q13 : Int32) (S11 : zS) =>
some (q12, S11)) v1 zN 0 0 S
theorem w_X3_holdsOpenedBy_L4 {L : Nat} {xs : Nat → Int32} {fm : Bool} {h0 : Nat → va_E} {t : Nat × Nat × Nat} (hn1 : 64 ≤ t.1) (hn2 : t.1 ≤ 1000000) (d : Nat) {ex : Int32 → Int32 → zS → Option (Int32 × zS)} {i1 : Int32} {R : Int32 × zS} (hex : ∀ (x2 : Int32) (x3 : Int32) (S : zS) (h : Nat → va_E), zE (zDc t.1) h0 S (h, t) → ex x2 x3 S = some R → zW (ia_P0 L xs fm) ia_nx (d + 1) 3 false cX3_holdsOpenedBy 5 (some .int) 39 [(0, .ref 37), (1, .int i1), (2, .int x2), (3, .int x3)] [] (h, t) (zQi (zDc t.1) h0 t R)) : ∀ (k : Nat) (x2 : Int32) (x3 : Int32) (S : zS) (h : Nat → va_E), zE (zDc t.1) h0 S (h, t) → f_X3_holdsOpenedBy_L4 ex i1 k x2 x3 S = some R → zW (ia_P0 L xs fm) ia_nx (d + 1) 3 false cX3_holdsOpenedBy 5 (some .int) 4 [(0, .ref 37), (1, .int i1), (2, .int x2), (3, .int x3)] [] (h, t) (zQi (zDc t.1) h0 t R) := by
  intro k
  induction k with
  | zero => intro x2 x3 S h hE hf; cases hf
  | succ k ih =>
    intro x2 x3 S h hE hf
    unfold f_X3_holdsOpenedBy_L4 at hf
    refine z_iload_n dX3_holdsOpenedBy_4 rfl ?_
    refine z_sipush (v := 300) dX3_holdsOpenedBy_5 (by decide) ?_
    by_cases c1 : 300 < x3
    · have hf := zif_t hf c1
      refine z_icmp_gt_t (tgt := 39) dX3_holdsOpenedBy_8 (by decide) c1 ?_
      exact zW.sub (hex x2 x3 S _ hE hf) [0, 1, 2, 3] rfl rfl rfl rfl
    · have hf := zif_f hf c1
      refine z_icmp_gt_f (tgt := 39) dX3_holdsOpenedBy_8 (by decide) c1 ?_
      refine z_aload_n dX3_holdsOpenedBy_11 rfl ?_
      refine z_iload_n dX3_holdsOpenedBy_12 rfl ?_
      obtain ⟨r3, S2, k4, hf⟩ := zb_some hf
      refine z_callVi dX3_holdsOpenedBy_13 tM_3_29 mt_3004 (Nat.le_of_ble_eq_true rfl) rfl rfl (z_recv hE dc_37 rfl) rfl (ia_oks_le hn1 rfl) (Nat.le_of_ble_eq_true rfl) (w_X3_holdNow hn1 hn2 (d + 0) hE k4) (fun h hE => ?_)
      refine z_istore (lv' := [(4, .int r3), (0, .ref 37), (1, .int i1), (2, .int x2), (3, .int x3)]) dX3_holdsOpenedBy_16 (by decide) rfl ?_
      refine z_iload dX3_holdsOpenedBy_18 rfl ?_
      refine z_iconst (v := (-1)) dX3_holdsOpenedBy_20 (by decide) ?_
      obtain ⟨J6, eJ6, hf⟩ := zl_some hf
      have hJ6 : ∀ (q7 : Int32) (h : Nat → va_E), zE (zDc t.1) h0 S2 (h, t) → J6 q7 = some R → zW (ia_P0 L xs fm) ia_nx (d + 1) 3 false cX3_holdsOpenedBy 5 (some .int) 33 [(0, .ref 37), (1, .int i1), (2, .int q7), (3, .int x3), (4, .int r3)] [] (h, t) (zQi (zDc t.1) h0 t R) := by
        intro q7 h hE hf
        rw [eJ6] at hf
        obtain ⟨y8, ey8, hf⟩ := zl_some hf
        refine z_iincY (v := 1) (y := y8) (lv' := [(3, .int y8), (0, .ref 37), (1, .int i1), (2, .int q7), (4, .int r3)]) dX3_holdsOpenedBy_33 rfl (by decide) (by decide) ey8 rfl ?_
        refine z_goto (tgt := 4) dX3_holdsOpenedBy_36 (by decide) ?_
        exact zW.sub (ih q7 y8 S2 _ hE hf) [1, 2, 3, 0] rfl rfl rfl rfl
      by_cases c5 : r3 = (-1)
      · have hf := zif_t hf c5
        refine z_icmp_eq_t (tgt := 33) dX3_holdsOpenedBy_21 (by decide) c5 ?_
        exact zW.sub (hJ6 x2 _ hE hf) [1, 2, 3, 4, 0] rfl rfl rfl rfl
      · have hf := zif_f hf c5
        refine z_icmp_eq_f (tgt := 33) dX3_holdsOpenedBy_21 (by decide) c5 ?_
        refine z_iload dX3_holdsOpenedBy_24 rfl ?_
        refine z_iload_n dX3_holdsOpenedBy_26 rfl ?_
        by_cases c9 : i1 < r3
        · have hf := zif_t hf c9
          refine z_icmp_gt_t (tgt := 33) dX3_holdsOpenedBy_27 (by decide) c9 ?_
          exact zW.sub (hJ6 x2 _ hE hf) [1, 2, 3, 4, 0] rfl rfl rfl rfl
        · have hf := zif_f hf c9
          refine z_icmp_gt_f (tgt := 33) dX3_holdsOpenedBy_27 (by decide) c9 ?_
          obtain ⟨y10, ey10, hf⟩ := zl_some hf
          refine z_iincY (v := 1) (y := y10) (lv' := [(2, .int y10), (4, .int r3), (0, .ref 37), (1, .int i1), (3, .int x3)]) dX3_holdsOpenedBy_30 rfl (by decide) (by decide) ey10 rfl ?_
          exact zW.sub (hJ6 y10 _ hE hf) [2, 3, 0, 4, 1] rfl rfl rfl rfl
theorem w_X3_holdsOpenedBy {L : Nat} {xs : Nat → Int32} {fm : Bool} {h0 : Nat → va_E} {t : Nat × Nat × Nat} (hn1 : 64 ≤ t.1) (hn2 : t.1 ≤ 1000000) (d : Nat) {h : Nat → va_E} {S : zS} (hE : zE (zDc t.1) h0 S (h, t)) {v1 : Int32} {R : Int32 × zS} (hf : f_X3_holdsOpenedBy v1 S = some R) : zC (ia_P0 L xs fm) (d + 2) 3003 [.ref 37, .int v1] (h, t) (zQi (zDc t.1) h0 t R) := by
  refine zC_of mt_3003 nn_3003 (Nat.le_of_ble_eq_true rfl) ?_
  refine zW_lv (lv' := [(0, .ref 37), (1, .int v1)]) rfl ?_
  unfold f_X3_holdsOpenedBy at hf
  refine z_iconst (v := 0) dX3_holdsOpenedBy_0 (by decide) ?_
  refine z_istore_n (lv' := [(2, .int 0), (0, .ref 37), (1, .int v1)]) dX3_holdsOpenedBy_1 (by decide) rfl ?_
  refine z_iconst (v := 0) dX3_holdsOpenedBy_2 (by decide) ?_
  refine z_istore_n (lv' := [(3, .int 0), (2, .int 0), (0, .ref 37), (1, .int v1)]) dX3_holdsOpenedBy_3 (by decide) rfl ?_
  refine zW.sub (w_X3_holdsOpenedBy_L4 hn1 hn2 d (fun q12 q13 S11 h hE hf => ?_) zN 0 0 S h hE hf) [2, 3, 1, 0] rfl rfl rfl rfl
  try dsimp only at hf
  refine z_iload_n dX3_holdsOpenedBy_39 rfl ?_
  have e_ := Option.some.inj hf
  subst e_
  exact z_ireturn dX3_holdsOpenedBy_40 rfl ⟨h, rfl, rfl, hE⟩
def f_X3_least_L2 (ex : Int32 → zS → Option (Int32 × zS))  : Nat → Int32 → zS → Option (Int32 × zS)
  | 0, _, _ => none
  | k + 1, x1, S =>
    if 300 < x1 then
    ex x1 S
    else
    zb (f_X3_holdNow x1 S) fun r3 S2 =>
    if r3 = (-1) then
    zl (x1 + 1) fun (y6 : Int32) =>
    f_X3_least_L2 ex k y6 S2
    else
    some (x1, S2)
def f_X3_least  (S : zS) : Option (Int32 × zS) :=
f_X3_least_L2 (fun (q8 : Int32) (S7 : zS) =>
some ((-1), S7))  zN 0 S
theorem w_X3_least_L2 {L : Nat} {xs : Nat → Int32} {fm : Bool} {h0 : Nat → va_E} {t : Nat × Nat × Nat} (hn1 : 64 ≤ t.1) (hn2 : t.1 ≤ 1000000) (d : Nat) {ex : Int32 → zS → Option (Int32 × zS)} {R : Int32 × zS} (hex : ∀ (x1 : Int32) (S : zS) (h : Nat → va_E), zE (zDc t.1) h0 S (h, t) → ex x1 S = some R → zW (ia_P0 L xs fm) ia_nx (d + 1) 3 false cX3_least 2 (some .int) 26 [(0, .ref 37), (1, .int x1)] [] (h, t) (zQi (zDc t.1) h0 t R)) : ∀ (k : Nat) (x1 : Int32) (S : zS) (h : Nat → va_E), zE (zDc t.1) h0 S (h, t) → f_X3_least_L2 ex  k x1 S = some R → zW (ia_P0 L xs fm) ia_nx (d + 1) 3 false cX3_least 2 (some .int) 2 [(0, .ref 37), (1, .int x1)] [] (h, t) (zQi (zDc t.1) h0 t R) := by
  intro k
  induction k with
  | zero => intro x1 S h hE hf; cases hf
  | succ k ih =>
    intro x1 S h hE hf
    unfold f_X3_least_L2 at hf
    refine z_iload_n dX3_least_2 rfl ?_
    refine z_sipush (v := 300) dX3_least_3 (by decide) ?_
    by_cases c1 : 300 < x1
    · have hf := zif_t hf c1
      refine z_icmp_gt_t (tgt := 26) dX3_least_6 (by decide) c1 ?_
      exact zW.sub (hex x1 S _ hE hf) [0, 1] rfl rfl rfl rfl
    · have hf := zif_f hf c1
      refine z_icmp_gt_f (tgt := 26) dX3_least_6 (by decide) c1 ?_
      refine z_aload_n dX3_least_9 rfl ?_
      refine z_iload_n dX3_least_10 rfl ?_
      obtain ⟨r3, S2, k4, hf⟩ := zb_some hf
      refine z_callVi dX3_least_11 tM_3_29 mt_3004 (Nat.le_of_ble_eq_true rfl) rfl rfl (z_recv hE dc_37 rfl) rfl (ia_oks_le hn1 rfl) (Nat.le_of_ble_eq_true rfl) (w_X3_holdNow hn1 hn2 (d + 0) hE k4) (fun h hE => ?_)
      refine z_iconst (v := (-1)) dX3_least_14 (by decide) ?_
      by_cases c5 : r3 = (-1)
      · have hf := zif_t hf c5
        refine z_icmp_eq_t (tgt := 20) dX3_least_15 (by decide) c5 ?_
        obtain ⟨y6, ey6, hf⟩ := zl_some hf
        refine z_iincY (v := 1) (y := y6) (lv' := [(1, .int y6), (0, .ref 37)]) dX3_least_20 rfl (by decide) (by decide) ey6 rfl ?_
        refine z_goto (tgt := 2) dX3_least_23 (by decide) ?_
        exact zW.sub (ih y6 S2 _ hE hf) [1, 0] rfl rfl rfl rfl
      · have hf := zif_f hf c5
        refine z_icmp_eq_f (tgt := 20) dX3_least_15 (by decide) c5 ?_
        refine z_iload_n dX3_least_18 rfl ?_
        have e_ := Option.some.inj hf
        subst e_
        exact z_ireturn dX3_least_19 rfl ⟨h, rfl, rfl, hE⟩
theorem w_X3_least {L : Nat} {xs : Nat → Int32} {fm : Bool} {h0 : Nat → va_E} {t : Nat × Nat × Nat} (hn1 : 64 ≤ t.1) (hn2 : t.1 ≤ 1000000) (d : Nat) {h : Nat → va_E} {S : zS} (hE : zE (zDc t.1) h0 S (h, t)) {R : Int32 × zS} (hf : f_X3_least  S = some R) : zC (ia_P0 L xs fm) (d + 2) 3005 [.ref 37] (h, t) (zQi (zDc t.1) h0 t R) := by
  refine zC_of mt_3005 nn_3005 (Nat.le_of_ble_eq_true rfl) ?_
  refine zW_lv (lv' := [(0, .ref 37)]) rfl ?_
  unfold f_X3_least at hf
  refine z_iconst (v := 0) dX3_least_0 (by decide) ?_
  refine z_istore_n (lv' := [(1, .int 0), (0, .ref 37)]) dX3_least_1 (by decide) rfl ?_
  refine zW.sub (w_X3_least_L2 hn1 hn2 d (fun q8 S7 h hE hf => ?_) zN 0 S h hE hf) [1, 0] rfl rfl rfl rfl
  try dsimp only at hf
  refine z_iconst (v := (-1)) dX3_least_26 (by decide) ?_
  have e_ := Option.some.inj hf
  subst e_
  exact z_ireturn dX3_least_27 rfl ⟨h, rfl, rfl, hE⟩
def f_X3_greatest_L4 (ex : Int32 → zS → Option (Int32 × zS))  : Nat → Int32 → zS → Option (Int32 × zS)
  | 0, _, _ => none
  | k + 1, x1, S =>
    if x1 < 0 then
    ex x1 S
    else
    zb (f_X3_holdNow x1 S) fun r3 S2 =>
    if r3 = (-1) then
    zl (x1 + (-1)) fun (y6 : Int32) =>
    f_X3_greatest_L4 ex k y6 S2
    else
    some (x1, S2)
def f_X3_greatest  (S : zS) : Option (Int32 × zS) :=
f_X3_greatest_L4 (fun (q8 : Int32) (S7 : zS) =>
some ((-1), S7))  zN 300 S
theorem w_X3_greatest_L4 {L : Nat} {xs : Nat → Int32} {fm : Bool} {h0 : Nat → va_E} {t : Nat × Nat × Nat} (hn1 : 64 ≤ t.1) (hn2 : t.1 ≤ 1000000) (d : Nat) {ex : Int32 → zS → Option (Int32 × zS)} {R : Int32 × zS} (hex : ∀ (x1 : Int32) (S : zS) (h : Nat → va_E), zE (zDc t.1) h0 S (h, t) → ex x1 S = some R → zW (ia_P0 L xs fm) ia_nx (d + 1) 3 false cX3_greatest 2 (some .int) 25 [(0, .ref 37), (1, .int x1)] [] (h, t) (zQi (zDc t.1) h0 t R)) : ∀ (k : Nat) (x1 : Int32) (S : zS) (h : Nat → va_E), zE (zDc t.1) h0 S (h, t) → f_X3_greatest_L4 ex  k x1 S = some R → zW (ia_P0 L xs fm) ia_nx (d + 1) 3 false cX3_greatest 2 (some .int) 4 [(0, .ref 37), (1, .int x1)] [] (h, t) (zQi (zDc t.1) h0 t R) := by
  intro k
  induction k with
  | zero => intro x1 S h hE hf; cases hf
  | succ k ih =>
    intro x1 S h hE hf
    unfold f_X3_greatest_L4 at hf
    refine z_iload_n dX3_greatest_4 rfl ?_
    by_cases c1 : x1 < 0
    · have hf := zif_t hf c1
      refine z_if_lt_t (tgt := 25) dX3_greatest_5 (by decide) c1 ?_
      exact zW.sub (hex x1 S _ hE hf) [0, 1] rfl rfl rfl rfl
    · have hf := zif_f hf c1
      refine z_if_lt_f (tgt := 25) dX3_greatest_5 (by decide) c1 ?_
      refine z_aload_n dX3_greatest_8 rfl ?_
      refine z_iload_n dX3_greatest_9 rfl ?_
      obtain ⟨r3, S2, k4, hf⟩ := zb_some hf
      refine z_callVi dX3_greatest_10 tM_3_29 mt_3004 (Nat.le_of_ble_eq_true rfl) rfl rfl (z_recv hE dc_37 rfl) rfl (ia_oks_le hn1 rfl) (Nat.le_of_ble_eq_true rfl) (w_X3_holdNow hn1 hn2 (d + 0) hE k4) (fun h hE => ?_)
      refine z_iconst (v := (-1)) dX3_greatest_13 (by decide) ?_
      by_cases c5 : r3 = (-1)
      · have hf := zif_t hf c5
        refine z_icmp_eq_t (tgt := 19) dX3_greatest_14 (by decide) c5 ?_
        obtain ⟨y6, ey6, hf⟩ := zl_some hf
        refine z_iincY (v := (-1)) (y := y6) (lv' := [(1, .int y6), (0, .ref 37)]) dX3_greatest_19 rfl (by decide) (by decide) ey6 rfl ?_
        refine z_goto (tgt := 4) dX3_greatest_22 (by decide) ?_
        exact zW.sub (ih y6 S2 _ hE hf) [1, 0] rfl rfl rfl rfl
      · have hf := zif_f hf c5
        refine z_icmp_eq_f (tgt := 19) dX3_greatest_14 (by decide) c5 ?_
        refine z_iload_n dX3_greatest_17 rfl ?_
        have e_ := Option.some.inj hf
        subst e_
        exact z_ireturn dX3_greatest_18 rfl ⟨h, rfl, rfl, hE⟩
theorem w_X3_greatest {L : Nat} {xs : Nat → Int32} {fm : Bool} {h0 : Nat → va_E} {t : Nat × Nat × Nat} (hn1 : 64 ≤ t.1) (hn2 : t.1 ≤ 1000000) (d : Nat) {h : Nat → va_E} {S : zS} (hE : zE (zDc t.1) h0 S (h, t)) {R : Int32 × zS} (hf : f_X3_greatest  S = some R) : zC (ia_P0 L xs fm) (d + 2) 3006 [.ref 37] (h, t) (zQi (zDc t.1) h0 t R) := by
  refine zC_of mt_3006 nn_3006 (Nat.le_of_ble_eq_true rfl) ?_
  refine zW_lv (lv' := [(0, .ref 37)]) rfl ?_
  unfold f_X3_greatest at hf
  refine z_sipush (v := 300) dX3_greatest_0 (by decide) ?_
  refine z_istore_n (lv' := [(1, .int 300), (0, .ref 37)]) dX3_greatest_3 (by decide) rfl ?_
  refine zW.sub (w_X3_greatest_L4 hn1 hn2 d (fun q8 S7 h hE hf => ?_) zN 300 S h hE hf) [1, 0] rfl rfl rfl rfl
  try dsimp only at hf
  refine z_iconst (v := (-1)) dX3_greatest_25 (by decide) ?_
  have e_ := Option.some.inj hf
  subst e_
  exact z_ireturn dX3_greatest_26 rfl ⟨h, rfl, rfl, hE⟩
def f_X11_tight (v1 : Int32) (S : zS) : Option (Int32 × zS) :=
if v1.toInt < 0 ∨ 2 < v1.toInt then
some ((-1000000), S)
else
if v1 = 0 then
zb (f_X3_holdsOpenedBy 999 S) fun r3 S2 =>
some (r3, S2)
else if v1 = 1 then
zb (f_X3_least S) fun r7 S6 =>
some (r7, S6)
else if v1 = 2 then
zb (f_X3_greatest S) fun r11 S10 =>
some (r11, S10)
else none
theorem w_X11_tight {L : Nat} {xs : Nat → Int32} {fm : Bool} {h0 : Nat → va_E} {t : Nat × Nat × Nat} (hn1 : 64 ≤ t.1) (hn2 : t.1 ≤ 1000000) (d : Nat) {h : Nat → va_E} {S : zS} (hE : zE (zDc t.1) h0 S (h, t)) {v1 : Int32} {R : Int32 × zS} (hf : f_X11_tight v1 S = some R) : zC (ia_P0 L xs fm) (d + 3) 11047 [.ref 0, .int v1] (h, t) (zQi (zDc t.1) h0 t R) := by
  refine zC_of mt_11047 nn_11047 (Nat.le_of_ble_eq_true rfl) ?_
  refine zW_lv (lv' := [(0, .ref 0), (1, .int v1)]) rfl ?_
  unfold f_X11_tight at hf
  refine z_iload_n dX11_tight_0 rfl ?_
  by_cases c1 : v1.toInt < 0 ∨ 2 < v1.toInt
  · have hf := zif_t hf c1
    refine z_tabO (tgt := 55) dX11_tight_1 c1 (by decide) ?_
    refine z_ldcw dX11_tight_55 tK_11_275 ?_
    have e_ := Option.some.inj hf
    subst e_
    exact z_ireturn dX11_tight_58 rfl ⟨h, rfl, rfl, hE⟩
  · have hf := zif_f hf c1
    by_cases c5 : v1 = 0
    · have hf := zif_t hf c5
      refine z_tabI (off := 27) (tgt := 28) dX11_tight_1 c1 (by rw [c5]; rfl) (by decide) ?_
      refine z_aload_n dX11_tight_28 rfl ?_
      refine z_getC dX11_tight_29 tF_11_89 hE dc_0 rfl rfl ?_
      refine z_sipush (v := 999) dX11_tight_32 (by decide) ?_
      obtain ⟨r3, S2, k4, hf⟩ := zb_some hf
      refine z_callVi dX11_tight_35 tM_11_333 mt_3003 (Nat.le_of_ble_eq_true rfl) rfl rfl (z_recv hE dc_37 rfl) rfl (ia_oks_le hn1 rfl) (Nat.le_of_ble_eq_true rfl) (w_X3_holdsOpenedBy hn1 hn2 (d + 0) hE k4) (fun h hE => ?_)
      have e_ := Option.some.inj hf
      subst e_
      exact z_ireturn dX11_tight_38 rfl ⟨h, rfl, rfl, hE⟩
    · have hf := zif_f hf c5
      by_cases c9 : v1 = 1
      · have hf := zif_t hf c9
        refine z_tabI (off := 38) (tgt := 39) dX11_tight_1 c1 (by rw [c9]; rfl) (by decide) ?_
        refine z_aload_n dX11_tight_39 rfl ?_
        refine z_getC dX11_tight_40 tF_11_89 hE dc_0 rfl rfl ?_
        obtain ⟨r7, S6, k8, hf⟩ := zb_some hf
        refine z_callVi dX11_tight_43 tM_11_336 mt_3005 (Nat.le_of_ble_eq_true rfl) rfl rfl (z_recv hE dc_37 rfl) rfl (ia_oks_le hn1 rfl) (Nat.le_of_ble_eq_true rfl) (w_X3_least hn1 hn2 (d + 0) hE k8) (fun h hE => ?_)
        have e_ := Option.some.inj hf
        subst e_
        exact z_ireturn dX11_tight_46 rfl ⟨h, rfl, rfl, hE⟩
      · have hf := zif_f hf c9
        by_cases c13 : v1 = 2
        · have hf := zif_t hf c13
          refine z_tabI (off := 46) (tgt := 47) dX11_tight_1 c1 (by rw [c13]; rfl) (by decide) ?_
          refine z_aload_n dX11_tight_47 rfl ?_
          refine z_getC dX11_tight_48 tF_11_89 hE dc_0 rfl rfl ?_
          obtain ⟨r11, S10, k12, hf⟩ := zb_some hf
          refine z_callVi dX11_tight_51 tM_11_339 mt_3006 (Nat.le_of_ble_eq_true rfl) rfl rfl (z_recv hE dc_37 rfl) rfl (ia_oks_le hn1 rfl) (Nat.le_of_ble_eq_true rfl) (w_X3_greatest hn1 hn2 (d + 0) hE k12) (fun h hE => ?_)
          have e_ := Option.some.inj hf
          subst e_
          exact z_ireturn dX11_tight_54 rfl ⟨h, rfl, rfl, hE⟩
        · have hf := zif_f hf c13
          cases hf
def f_X11_next (v1 : Int32) (S : zS) : Option (Int32 × zS) :=
if v1 < 0 then
some ((-1), S)
else
if v1 ≤ 999 then
zb (f_X3_holdsOpenedBy v1 S) fun r4 S3 =>
some (r4, S3)
else
some ((-1), S)
theorem w_X11_next {L : Nat} {xs : Nat → Int32} {fm : Bool} {h0 : Nat → va_E} {t : Nat × Nat × Nat} (hn1 : 64 ≤ t.1) (hn2 : t.1 ≤ 1000000) (d : Nat) {h : Nat → va_E} {S : zS} (hE : zE (zDc t.1) h0 S (h, t)) {v1 : Int32} {R : Int32 × zS} (hf : f_X11_next v1 S = some R) : zC (ia_P0 L xs fm) (d + 3) 11048 [.ref 0, .int v1] (h, t) (zQi (zDc t.1) h0 t R) := by
  refine zC_of mt_11048 nn_11048 (Nat.le_of_ble_eq_true rfl) ?_
  refine zW_lv (lv' := [(0, .ref 0), (1, .int v1)]) rfl ?_
  unfold f_X11_next at hf
  refine z_iload_n dX11_next_0 rfl ?_
  by_cases c1 : v1 < 0
  · have hf := zif_t hf c1
    refine z_if_lt_t (tgt := 11) dX11_next_1 (by decide) c1 ?_
    refine z_iconst (v := (-1)) dX11_next_11 (by decide) ?_
    have e_ := Option.some.inj hf
    subst e_
    exact z_ireturn dX11_next_12 rfl ⟨h, rfl, rfl, hE⟩
  · have hf := zif_f hf c1
    refine z_if_lt_f (tgt := 11) dX11_next_1 (by decide) c1 ?_
    refine z_iload_n dX11_next_4 rfl ?_
    refine z_sipush (v := 999) dX11_next_5 (by decide) ?_
    by_cases c2 : v1 ≤ 999
    · have hf := zif_t hf c2
      refine z_icmp_le_t (tgt := 13) dX11_next_8 (by decide) c2 ?_
      refine z_aload_n dX11_next_13 rfl ?_
      refine z_getC dX11_next_14 tF_11_89 hE dc_0 rfl rfl ?_
      refine z_iload_n dX11_next_17 rfl ?_
      obtain ⟨r4, S3, k5, hf⟩ := zb_some hf
      refine z_callVi dX11_next_18 tM_11_333 mt_3003 (Nat.le_of_ble_eq_true rfl) rfl rfl (z_recv hE dc_37 rfl) rfl (ia_oks_le hn1 rfl) (Nat.le_of_ble_eq_true rfl) (w_X3_holdsOpenedBy hn1 hn2 (d + 0) hE k5) (fun h hE => ?_)
      have e_ := Option.some.inj hf
      subst e_
      exact z_ireturn dX11_next_21 rfl ⟨h, rfl, rfl, hE⟩
    · have hf := zif_f hf c2
      refine z_icmp_le_f (tgt := 13) dX11_next_8 (by decide) c2 ?_
      refine z_iconst (v := (-1)) dX11_next_11 (by decide) ?_
      have e_ := Option.some.inj hf
      subst e_
      exact z_ireturn dX11_next_12 rfl ⟨h, rfl, rfl, hE⟩
def f_X11_who_L34 (ex : Int32 → Int32 → zS → Option (Int32 × zS)) (i1 : Int32) (i2 : Int32) : Nat → Int32 → Int32 → zS → Option (Int32 × zS)
  | 0, _, _, _ => none
  | k + 1, x3, x4, S =>
    if (S.1 12 1) ≤ x4 then
    ex x3 x4 S
    else
    zb (f_X10_item 1 x4 0 S) fun r8 S7 =>
    zl (r8 / 2) fun (y10 : Int32) =>
    zl (fun (q13 : Int32) =>
    zl (x4 + 1) fun (y14 : Int32) =>
    f_X11_who_L34 ex i1 i2 k q13 y14 S7) fun J12 =>
    if i2 < (if 0 ≤ (y10 - i1) then (y10 - i1) else 0 - (y10 - i1)) then
    J12 x3
    else
    zl (x3 ||| (1 <<< (x4 &&& 31))) fun (y15 : Int32) =>
    J12 y15
def f_X11_who (v1 : Int32) (v2 : Int32) (S : zS) : Option (Int32 × zS) :=
if (S.1 0 17) = 0 then
some ((-1), S)
else
if v1 < 0 then
some ((-1), S)
else
if 99 < v1 then
some ((-1), S)
else
if v2 < 0 then
some ((-1), S)
else
if v2 ≤ 99 then
f_X11_who_L34 (fun (q17 : Int32) (q18 : Int32) (S16 : zS) =>
some (q17, S16)) v1 v2 zN 0 0 S
else
some ((-1), S)
theorem w_X11_who_L34 {L : Nat} {xs : Nat → Int32} {fm : Bool} {h0 : Nat → va_E} {t : Nat × Nat × Nat} (hn1 : 64 ≤ t.1) (hn2 : t.1 ≤ 1000000) (d : Nat) {ex : Int32 → Int32 → zS → Option (Int32 × zS)} {i1 : Int32} {i2 : Int32} {R : Int32 × zS} (hex : ∀ (x3 : Int32) (x4 : Int32) (S : zS) (h : Nat → va_E), zE (zDc t.1) h0 S (h, t) → ex x3 x4 S = some R → zW (ia_P0 L xs fm) ia_nx (d + 2) 11 false cX11_who 6 (some .int) 87 [(0, .ref 0), (1, .int i1), (2, .int i2), (3, .int x3), (4, .int x4)] [] (h, t) (zQi (zDc t.1) h0 t R)) : ∀ (k : Nat) (x3 : Int32) (x4 : Int32) (S : zS) (h : Nat → va_E), zE (zDc t.1) h0 S (h, t) → f_X11_who_L34 ex i1 i2 k x3 x4 S = some R → zW (ia_P0 L xs fm) ia_nx (d + 2) 11 false cX11_who 6 (some .int) 34 [(0, .ref 0), (1, .int i1), (2, .int i2), (3, .int x3), (4, .int x4)] [] (h, t) (zQi (zDc t.1) h0 t R) := by
  intro k
  induction k with
  | zero => intro x3 x4 S h hE hf; cases hf
  | succ k ih =>
    intro x3 x4 S h hE hf
    unfold f_X11_who_L34 at hf
    refine z_iload dX11_who_34 rfl ?_
    refine z_aload_n dX11_who_36 rfl ?_
    refine z_getC dX11_who_37 tF_11_42 hE dc_0 rfl rfl ?_
    refine z_getC dX11_who_40 tF_11_153 hE dc_11 rfl rfl ?_
    refine z_iconst (v := 1) dX11_who_43 (by decide) ?_
    refine z_ialoadL (i := 1) dX11_who_44 hE dc_12 (by decide) (by decide) ?_
    by_cases c6 : (S.1 12 1) ≤ x4
    · have hf := zif_t hf c6
      refine z_icmp_ge_t (tgt := 87) dX11_who_45 (by decide) c6 ?_
      exact zW.sub (hex x3 x4 S _ hE hf) [0, 1, 2, 3, 4] rfl rfl rfl rfl
    · have hf := zif_f hf c6
      refine z_icmp_ge_f (tgt := 87) dX11_who_45 (by decide) c6 ?_
      refine z_aload_n dX11_who_48 rfl ?_
      refine z_getC dX11_who_49 tF_11_42 hE dc_0 rfl rfl ?_
      refine z_iconst (v := 1) dX11_who_52 (by decide) ?_
      refine z_iload dX11_who_53 rfl ?_
      refine z_iconst (v := 0) dX11_who_55 (by decide) ?_
      obtain ⟨r8, S7, k9, hf⟩ := zb_some hf
      refine z_callVi dX11_who_56 tM_11_192 mt_10004 (Nat.le_of_ble_eq_true rfl) rfl rfl (z_recv hE dc_11 rfl) rfl (ia_oks_le hn1 rfl) (Nat.le_of_ble_eq_true rfl) (w_X10_item hn1 hn2 (d + 0) hE k9) (fun h hE => ?_)
      refine z_iconst (v := 2) dX11_who_59 (by decide) ?_
      refine z_idiv dX11_who_60 (by decide) ?_
      obtain ⟨y10, ey10, hf⟩ := zl_some hf
      refine z_topi ey10 ?_
      refine z_istore (lv' := [(5, .int y10), (0, .ref 0), (1, .int i1), (2, .int i2), (3, .int x3), (4, .int x4)]) dX11_who_61 (by decide) rfl ?_
      refine z_iload dX11_who_63 rfl ?_
      refine z_iload_n dX11_who_65 rfl ?_
      refine z_isub dX11_who_66 ?_
      refine z_mabs dX11_who_67 tM_11_342 (Nat.le_of_ble_eq_true rfl) ?_
      refine z_iload_n dX11_who_70 rfl ?_
      obtain ⟨J12, eJ12, hf⟩ := zl_some hf
      have hJ12 : ∀ (q13 : Int32) (h : Nat → va_E), zE (zDc t.1) h0 S7 (h, t) → J12 q13 = some R → zW (ia_P0 L xs fm) ia_nx (d + 2) 11 false cX11_who 6 (some .int) 81 [(0, .ref 0), (1, .int i1), (2, .int i2), (3, .int q13), (4, .int x4), (5, .int y10)] [] (h, t) (zQi (zDc t.1) h0 t R) := by
        intro q13 h hE hf
        rw [eJ12] at hf
        obtain ⟨y14, ey14, hf⟩ := zl_some hf
        refine z_iincY (v := 1) (y := y14) (lv' := [(4, .int y14), (0, .ref 0), (1, .int i1), (2, .int i2), (3, .int q13), (5, .int y10)]) dX11_who_81 rfl (by decide) (by decide) ey14 rfl ?_
        refine z_goto (tgt := 34) dX11_who_84 (by decide) ?_
        exact zW.sub (ih q13 y14 S7 _ hE hf) [1, 2, 3, 4, 0] rfl rfl rfl rfl
      by_cases c11 : i2 < (if 0 ≤ (y10 - i1) then (y10 - i1) else 0 - (y10 - i1))
      · have hf := zif_t hf c11
        refine z_icmp_gt_t (tgt := 81) dX11_who_71 (by decide) c11 ?_
        exact zW.sub (hJ12 x3 _ hE hf) [1, 2, 3, 4, 5, 0] rfl rfl rfl rfl
      · have hf := zif_f hf c11
        refine z_icmp_gt_f (tgt := 81) dX11_who_71 (by decide) c11 ?_
        refine z_iload_n dX11_who_74 rfl ?_
        refine z_iconst (v := 1) dX11_who_75 (by decide) ?_
        refine z_iload dX11_who_76 rfl ?_
        refine z_ishl dX11_who_78 ?_
        refine z_ior dX11_who_79 ?_
        obtain ⟨y15, ey15, hf⟩ := zl_some hf
        refine z_topi ey15 ?_
        refine z_istore_n (lv' := [(3, .int y15), (5, .int y10), (0, .ref 0), (1, .int i1), (2, .int i2), (4, .int x4)]) dX11_who_80 (by decide) rfl ?_
        exact zW.sub (hJ12 y15 _ hE hf) [2, 3, 4, 0, 5, 1] rfl rfl rfl rfl
theorem w_X11_who {L : Nat} {xs : Nat → Int32} {fm : Bool} {h0 : Nat → va_E} {t : Nat × Nat × Nat} (hn1 : 64 ≤ t.1) (hn2 : t.1 ≤ 1000000) (d : Nat) {h : Nat → va_E} {S : zS} (hE : zE (zDc t.1) h0 S (h, t)) {v1 : Int32} {v2 : Int32} {R : Int32 × zS} (hf : f_X11_who v1 v2 S = some R) : zC (ia_P0 L xs fm) (d + 3) 11049 [.ref 0, .int v1, .int v2] (h, t) (zQi (zDc t.1) h0 t R) := by
  refine zC_of mt_11049 nn_11049 (Nat.le_of_ble_eq_true rfl) ?_
  refine zW_lv (lv' := [(0, .ref 0), (1, .int v1), (2, .int v2)]) rfl ?_
  unfold f_X11_who at hf
  refine z_aload_n dX11_who_0 rfl ?_
  refine z_getI dX11_who_1 tF_11_149 hE dc_0 rfl rfl ?_
  by_cases c1 : (S.1 0 17) = 0
  · have hf := zif_t hf c1
    refine z_if_eq_t (tgt := 27) dX11_who_4 (by decide) c1 ?_
    refine z_iconst (v := (-1)) dX11_who_27 (by decide) ?_
    have e_ := Option.some.inj hf
    subst e_
    exact z_ireturn dX11_who_28 rfl ⟨h, rfl, rfl, hE⟩
  · have hf := zif_f hf c1
    refine z_if_eq_f (tgt := 27) dX11_who_4 (by decide) c1 ?_
    refine z_iload_n dX11_who_7 rfl ?_
    by_cases c2 : v1 < 0
    · have hf := zif_t hf c2
      refine z_if_lt_t (tgt := 27) dX11_who_8 (by decide) c2 ?_
      refine z_iconst (v := (-1)) dX11_who_27 (by decide) ?_
      have e_ := Option.some.inj hf
      subst e_
      exact z_ireturn dX11_who_28 rfl ⟨h, rfl, rfl, hE⟩
    · have hf := zif_f hf c2
      refine z_if_lt_f (tgt := 27) dX11_who_8 (by decide) c2 ?_
      refine z_iload_n dX11_who_11 rfl ?_
      refine z_bipush (v := 99) dX11_who_12 (by decide) ?_
      by_cases c3 : 99 < v1
      · have hf := zif_t hf c3
        refine z_icmp_gt_t (tgt := 27) dX11_who_14 (by decide) c3 ?_
        refine z_iconst (v := (-1)) dX11_who_27 (by decide) ?_
        have e_ := Option.some.inj hf
        subst e_
        exact z_ireturn dX11_who_28 rfl ⟨h, rfl, rfl, hE⟩
      · have hf := zif_f hf c3
        refine z_icmp_gt_f (tgt := 27) dX11_who_14 (by decide) c3 ?_
        refine z_iload_n dX11_who_17 rfl ?_
        by_cases c4 : v2 < 0
        · have hf := zif_t hf c4
          refine z_if_lt_t (tgt := 27) dX11_who_18 (by decide) c4 ?_
          refine z_iconst (v := (-1)) dX11_who_27 (by decide) ?_
          have e_ := Option.some.inj hf
          subst e_
          exact z_ireturn dX11_who_28 rfl ⟨h, rfl, rfl, hE⟩
        · have hf := zif_f hf c4
          refine z_if_lt_f (tgt := 27) dX11_who_18 (by decide) c4 ?_
          refine z_iload_n dX11_who_21 rfl ?_
          refine z_bipush (v := 99) dX11_who_22 (by decide) ?_
          by_cases c5 : v2 ≤ 99
          · have hf := zif_t hf c5
            refine z_icmp_le_t (tgt := 29) dX11_who_24 (by decide) c5 ?_
            refine z_iconst (v := 0) dX11_who_29 (by decide) ?_
            refine z_istore_n (lv' := [(3, .int 0), (0, .ref 0), (1, .int v1), (2, .int v2)]) dX11_who_30 (by decide) rfl ?_
            refine z_iconst (v := 0) dX11_who_31 (by decide) ?_
            refine z_istore (lv' := [(4, .int 0), (3, .int 0), (0, .ref 0), (1, .int v1), (2, .int v2)]) dX11_who_32 (by decide) rfl ?_
            refine zW.sub (w_X11_who_L34 hn1 hn2 d (fun q17 q18 S16 h hE hf => ?_) zN 0 0 S h hE hf) [2, 3, 4, 1, 0] rfl rfl rfl rfl
            try dsimp only at hf
            refine z_iload_n dX11_who_87 rfl ?_
            have e_ := Option.some.inj hf
            subst e_
            exact z_ireturn dX11_who_88 rfl ⟨h, rfl, rfl, hE⟩
          · have hf := zif_f hf c5
            refine z_icmp_le_f (tgt := 29) dX11_who_24 (by decide) c5 ?_
            refine z_iconst (v := (-1)) dX11_who_27 (by decide) ?_
            have e_ := Option.some.inj hf
            subst e_
            exact z_ireturn dX11_who_28 rfl ⟨h, rfl, rfl, hE⟩
def f_X11_lefties_L13 (ex : Int32 → Int32 → zS → Option (Int32 × zS))  : Nat → Int32 → Int32 → zS → Option (Int32 × zS)
  | 0, _, _, _ => none
  | k + 1, x1, x2, S =>
    if (S.1 12 0) ≤ x2 then
    ex x1 x2 S
    else
    zb (f_X10_item 0 x2 3 S) fun r4 S3 =>
    zl (x1 ||| (r4 <<< (x2 &&& 31))) fun (y6 : Int32) =>
    zl (x2 + 1) fun (y7 : Int32) =>
    f_X11_lefties_L13 ex k y6 y7 S3
def f_X11_lefties  (S : zS) : Option (Int32 × zS) :=
if ¬ (S.1 0 17) = 0 then
f_X11_lefties_L13 (fun (q9 : Int32) (q10 : Int32) (S8 : zS) =>
some (q9, S8))  zN 0 0 S
else
some ((-1), S)
theorem w_X11_lefties_L13 {L : Nat} {xs : Nat → Int32} {fm : Bool} {h0 : Nat → va_E} {t : Nat × Nat × Nat} (hn1 : 64 ≤ t.1) (hn2 : t.1 ≤ 1000000) (d : Nat) {ex : Int32 → Int32 → zS → Option (Int32 × zS)} {R : Int32 × zS} (hex : ∀ (x1 : Int32) (x2 : Int32) (S : zS) (h : Nat → va_E), zE (zDc t.1) h0 S (h, t) → ex x1 x2 S = some R → zW (ia_P0 L xs fm) ia_nx (d + 2) 11 false cX11_lefties 3 (some .int) 47 [(0, .ref 0), (1, .int x1), (2, .int x2)] [] (h, t) (zQi (zDc t.1) h0 t R)) : ∀ (k : Nat) (x1 : Int32) (x2 : Int32) (S : zS) (h : Nat → va_E), zE (zDc t.1) h0 S (h, t) → f_X11_lefties_L13 ex  k x1 x2 S = some R → zW (ia_P0 L xs fm) ia_nx (d + 2) 11 false cX11_lefties 3 (some .int) 13 [(0, .ref 0), (1, .int x1), (2, .int x2)] [] (h, t) (zQi (zDc t.1) h0 t R) := by
  intro k
  induction k with
  | zero => intro x1 x2 S h hE hf; cases hf
  | succ k ih =>
    intro x1 x2 S h hE hf
    unfold f_X11_lefties_L13 at hf
    refine z_iload_n dX11_lefties_13 rfl ?_
    refine z_aload_n dX11_lefties_14 rfl ?_
    refine z_getC dX11_lefties_15 tF_11_42 hE dc_0 rfl rfl ?_
    refine z_getC dX11_lefties_18 tF_11_153 hE dc_11 rfl rfl ?_
    refine z_iconst (v := 0) dX11_lefties_21 (by decide) ?_
    refine z_ialoadL (i := 0) dX11_lefties_22 hE dc_12 (by decide) (by decide) ?_
    by_cases c2 : (S.1 12 0) ≤ x2
    · have hf := zif_t hf c2
      refine z_icmp_ge_t (tgt := 47) dX11_lefties_23 (by decide) c2 ?_
      exact zW.sub (hex x1 x2 S _ hE hf) [0, 1, 2] rfl rfl rfl rfl
    · have hf := zif_f hf c2
      refine z_icmp_ge_f (tgt := 47) dX11_lefties_23 (by decide) c2 ?_
      refine z_iload_n dX11_lefties_26 rfl ?_
      refine z_aload_n dX11_lefties_27 rfl ?_
      refine z_getC dX11_lefties_28 tF_11_42 hE dc_0 rfl rfl ?_
      refine z_iconst (v := 0) dX11_lefties_31 (by decide) ?_
      refine z_iload_n dX11_lefties_32 rfl ?_
      refine z_iconst (v := 3) dX11_lefties_33 (by decide) ?_
      obtain ⟨r4, S3, k5, hf⟩ := zb_some hf
      refine z_callVi dX11_lefties_34 tM_11_192 mt_10004 (Nat.le_of_ble_eq_true rfl) rfl rfl (z_recv hE dc_11 rfl) rfl (ia_oks_le hn1 rfl) (Nat.le_of_ble_eq_true rfl) (w_X10_item hn1 hn2 (d + 0) hE k5) (fun h hE => ?_)
      refine z_iload_n dX11_lefties_37 rfl ?_
      refine z_ishl dX11_lefties_38 ?_
      refine z_ior dX11_lefties_39 ?_
      obtain ⟨y6, ey6, hf⟩ := zl_some hf
      refine z_topi ey6 ?_
      refine z_istore_n (lv' := [(1, .int y6), (0, .ref 0), (2, .int x2)]) dX11_lefties_40 (by decide) rfl ?_
      obtain ⟨y7, ey7, hf⟩ := zl_some hf
      refine z_iincY (v := 1) (y := y7) (lv' := [(2, .int y7), (1, .int y6), (0, .ref 0)]) dX11_lefties_41 rfl (by decide) (by decide) ey7 rfl ?_
      refine z_goto (tgt := 13) dX11_lefties_44 (by decide) ?_
      exact zW.sub (ih y6 y7 S3 _ hE hf) [2, 1, 0] rfl rfl rfl rfl
theorem w_X11_lefties {L : Nat} {xs : Nat → Int32} {fm : Bool} {h0 : Nat → va_E} {t : Nat × Nat × Nat} (hn1 : 64 ≤ t.1) (hn2 : t.1 ≤ 1000000) (d : Nat) {h : Nat → va_E} {S : zS} (hE : zE (zDc t.1) h0 S (h, t)) {R : Int32 × zS} (hf : f_X11_lefties  S = some R) : zC (ia_P0 L xs fm) (d + 3) 11050 [.ref 0] (h, t) (zQi (zDc t.1) h0 t R) := by
  refine zC_of mt_11050 nn_11050 (Nat.le_of_ble_eq_true rfl) ?_
  refine zW_lv (lv' := [(0, .ref 0)]) rfl ?_
  unfold f_X11_lefties at hf
  refine z_aload_n dX11_lefties_0 rfl ?_
  refine z_getI dX11_lefties_1 tF_11_149 hE dc_0 rfl rfl ?_
  by_cases c1 : ¬ (S.1 0 17) = 0
  · have hf := zif_t hf c1
    refine z_if_ne_t (tgt := 9) dX11_lefties_4 (by decide) c1 ?_
    refine z_iconst (v := 0) dX11_lefties_9 (by decide) ?_
    refine z_istore_n (lv' := [(1, .int 0), (0, .ref 0)]) dX11_lefties_10 (by decide) rfl ?_
    refine z_iconst (v := 0) dX11_lefties_11 (by decide) ?_
    refine z_istore_n (lv' := [(2, .int 0), (1, .int 0), (0, .ref 0)]) dX11_lefties_12 (by decide) rfl ?_
    refine zW.sub (w_X11_lefties_L13 hn1 hn2 d (fun q9 q10 S8 h hE hf => ?_) zN 0 0 S h hE hf) [2, 1, 0] rfl rfl rfl rfl
    try dsimp only at hf
    refine z_iload_n dX11_lefties_47 rfl ?_
    have e_ := Option.some.inj hf
    subst e_
    exact z_ireturn dX11_lefties_48 rfl ⟨h, rfl, rfl, hE⟩
  · have hf := zif_f hf c1
    refine z_if_ne_f (tgt := 9) dX11_lefties_4 (by decide) c1 ?_
    refine z_iconst (v := (-1)) dX11_lefties_7 (by decide) ?_
    have e_ := Option.some.inj hf
    subst e_
    exact z_ireturn dX11_lefties_8 rfl ⟨h, rfl, rfl, hE⟩
def f_X11_draw (v1 : Int32) (S : zS) : Option (Int32 × zS) :=
zkl (S.2.1 0 18) fun y1 =>
zl (sK S 0 18 (.long ((y1 * 6364136223846793005) + 1442695040888963407))) fun S2 =>
if 1 ≤ v1 then
zkl (S2.2.1 0 18) fun y4 =>
if v1.toInt64 = 0 then none else
some ((((y4.toUInt64 >>> ((33 : Int32).toInt64.toUInt64 &&& Int64.toUInt64 63)).toInt64) - ((y4.toUInt64 >>> ((33 : Int32).toInt64.toUInt64 &&& Int64.toUInt64 63)).toInt64) / (v1.toInt64) * (v1.toInt64)).toInt32, S2)
else
some (0, S2)
theorem w_X11_draw {L : Nat} {xs : Nat → Int32} {fm : Bool} {h0 : Nat → va_E} {t : Nat × Nat × Nat} (hn1 : 64 ≤ t.1) (hn2 : t.1 ≤ 1000000) (d : Nat) {h : Nat → va_E} {S : zS} (hE : zE (zDc t.1) h0 S (h, t)) {v1 : Int32} {R : Int32 × zS} (hf : f_X11_draw v1 S = some R) : zC (ia_P0 L xs fm) (d + 1) 11052 [.ref 0, .int v1] (h, t) (zQi (zDc t.1) h0 t R) := by
  refine zC_of mt_11052 nn_11052 (Nat.le_of_ble_eq_true rfl) ?_
  refine zW_lv (lv' := [(0, .ref 0), (1, .int v1)]) rfl ?_
  unfold f_X11_draw at hf
  refine z_aload_n dX11_draw_0 rfl ?_
  refine z_aload_n dX11_draw_1 rfl ?_
  obtain ⟨y1, ey1, hf⟩ := zkl_some hf
  refine z_getK dX11_draw_2 tF_11_345 hE dc_0 rfl rfl ?_
  refine z_topv ey1 ?_
  refine z_ldc2 dX11_draw_5 tK_11_373 ?_
  refine z_lmul dX11_draw_8 ?_
  refine z_ldc2 dX11_draw_9 tK_11_375 ?_
  refine z_ladd dX11_draw_12 ?_
  obtain ⟨S2, eS2, hf⟩ := zl_some hf
  refine z_putK dX11_draw_13 tF_11_345 hE dc_0 rfl rfl rfl rfl (fun h hE => ?_)
  rw [← eS2] at hE
  refine z_iload_n dX11_draw_16 rfl ?_
  refine z_iconst (v := 1) dX11_draw_17 (by decide) ?_
  by_cases c3 : 1 ≤ v1
  · have hf := zif_t hf c3
    refine z_icmp_ge_t (tgt := 25) dX11_draw_18 (by decide) c3 ?_
    refine z_aload_n dX11_draw_25 rfl ?_
    obtain ⟨y4, ey4, hf⟩ := zkl_some hf
    refine z_getK dX11_draw_26 tF_11_345 hE dc_0 rfl rfl ?_
    refine z_topv ey4 ?_
    refine z_bipush (v := 33) dX11_draw_29 (by decide) ?_
    refine z_lushr dX11_draw_31 ?_
    refine z_iload_n dX11_draw_32 rfl ?_
    refine z_i2l dX11_draw_33 ?_
    obtain ⟨b5, hf⟩ := zchkn hf
    refine z_lrem dX11_draw_34 b5 ?_
    refine z_l2i dX11_draw_35 ?_
    have e_ := Option.some.inj hf
    subst e_
    exact z_ireturn dX11_draw_36 rfl ⟨h, rfl, rfl, hE⟩
  · have hf := zif_f hf c3
    refine z_icmp_ge_f (tgt := 25) dX11_draw_18 (by decide) c3 ?_
    refine z_iconst (v := 0) dX11_draw_21 (by decide) ?_
    refine z_goto (tgt := 36) dX11_draw_22 (by decide) ?_
    have e_ := Option.some.inj hf
    subst e_
    exact z_ireturn dX11_draw_36 rfl ⟨h, rfl, rfl, hE⟩
def f_X11_evening_L31 (ex : Int32 → Int32 → zS → Option (Int32 × zS)) (i1 : Int32) (i2 : Int64) : Nat → Int32 → Int32 → zS → Option (Int32 × zS)
  | 0, _, _, _ => none
  | k + 1, x4, x5, S =>
    if i1 ≤ x5 then
    ex x4 x5 S
    else
    zb (f_X11_lidIsShut S) fun r10 S9 =>
    if r10 = 0 then
    ex x4 x5 S9
    else
    zb (f_X11_draw (S9.1 12 1) S9) fun r14 S13 =>
    zb (f_X11_draw ((S13.1 12 2) + 1) S13) fun r17 S16 =>
    zl (fun (q21 : Int32) =>
    zb (f_X10_item 1 r14 4 S16) fun r23 S22 =>
    zb (f_X11_draw (r23 + 1) S22) fun r26 S25 =>
    zb (f_X7_onTable 17 S25) fun r29 S28 =>
    zb (f_X7_gripOn 17 r14 q21 r29 S28) fun r32 S31 =>
    zl (if 0 < (r32 - r26) then (r32 - r26) else 0) fun (y34 : Int32) =>
    zb (f_X1_keep_17 S31) fun _ S35 =>
    zb (f_X7_tryLid 17 r14 y34 S35) fun _ S38 =>
    zb (f_X11_tryCode r14 q21 S38) fun r42 S41 =>
    zb (f_X7_minute 17 S41) fun r45 S44 =>
    zb (f_X1_note r42 r45 S44) fun _ S47 =>
    zl (x4 + 1) fun (y50 : Int32) =>
    zl (x5 + 1) fun (y51 : Int32) =>
    f_X11_evening_L31 ex i1 i2 k y50 y51 S47) fun J20 =>
    if ¬ r17 = (S16.1 12 2) then
    J20 r17
    else
    J20 (-1)
def f_X11_evening (v1 : Int32) (v2 : Int64) (S : zS) : Option (Int32 × zS) :=
if v1 < 1 then
some ((-1), S)
else
if 40 < v1 then
some ((-1), S)
else
zb (f_X11_lidIsShut S) fun r4 S3 =>
if ¬ r4 = 0 then
zl (sK S3 0 18 (.long v2)) fun S7 =>
f_X11_evening_L31 (fun (q53 : Int32) (q54 : Int32) (S52 : zS) =>
some (q53, S52)) v1 v2 zN 0 0 S7
else
some ((-1), S3)
theorem w_X11_evening_L31 {L : Nat} {xs : Nat → Int32} {fm : Bool} {h0 : Nat → va_E} {t : Nat × Nat × Nat} (hn1 : 64 ≤ t.1) (hn2 : t.1 ≤ 1000000) (d : Nat) {ex : Int32 → Int32 → zS → Option (Int32 × zS)} {i1 : Int32} {i2 : Int64} {R : Int32 × zS} (hex : ∀ (x4 : Int32) (x5 : Int32) (S : zS) (h : Nat → va_E), zE (zDc t.1) h0 S (h, t) → ex x4 x5 S = some R → zW (ia_P0 L xs fm) ia_nx (d + 4) 11 false cX11_evening 10 (some .int) 191 [(0, .ref 0), (1, .int i1), (2, .long i2), (4, .int x4), (5, .int x5)] [] (h, t) (zQi (zDc t.1) h0 t R)) : ∀ (k : Nat) (x4 : Int32) (x5 : Int32) (S : zS) (h : Nat → va_E), zE (zDc t.1) h0 S (h, t) → f_X11_evening_L31 ex i1 i2 k x4 x5 S = some R → zW (ia_P0 L xs fm) ia_nx (d + 4) 11 false cX11_evening 10 (some .int) 31 [(0, .ref 0), (1, .int i1), (2, .long i2), (4, .int x4), (5, .int x5)] [] (h, t) (zQi (zDc t.1) h0 t R) := by
  intro k
  induction k with
  | zero => intro x4 x5 S h hE hf; cases hf
  | succ k ih =>
    intro x4 x5 S h hE hf
    unfold f_X11_evening_L31 at hf
    refine z_iload dX11_evening_31 rfl ?_
    refine z_iload_n dX11_evening_33 rfl ?_
    by_cases c8 : i1 ≤ x5
    · have hf := zif_t hf c8
      refine z_icmp_ge_t (tgt := 191) dX11_evening_34 (by decide) c8 ?_
      exact zW.sub (hex x4 x5 S _ hE hf) [0, 1, 2, 3, 4] rfl rfl rfl rfl
    · have hf := zif_f hf c8
      refine z_icmp_ge_f (tgt := 191) dX11_evening_34 (by decide) c8 ?_
      refine z_aload_n dX11_evening_37 rfl ?_
      obtain ⟨r10, S9, k11, hf⟩ := zb_some hf
      refine z_callVi dX11_evening_38 tM_11_223 mt_11019 (Nat.le_of_ble_eq_true rfl) rfl rfl (z_recv hE dc_0 rfl) rfl (ia_oks_le hn1 rfl) (Nat.le_of_ble_eq_true rfl) (w_X11_lidIsShut hn1 hn2 (d + 1) hE k11) (fun h hE => ?_)
      by_cases c12 : r10 = 0
      · have hf := zif_t hf c12
        refine z_if_eq_t (tgt := 191) dX11_evening_41 (by decide) c12 ?_
        exact zW.sub (hex x4 x5 S9 _ hE hf) [0, 1, 2, 3, 4] rfl rfl rfl rfl
      · have hf := zif_f hf c12
        refine z_if_eq_f (tgt := 191) dX11_evening_41 (by decide) c12 ?_
        refine z_aload_n dX11_evening_44 rfl ?_
        refine z_aload_n dX11_evening_45 rfl ?_
        refine z_getC dX11_evening_46 tF_11_42 hE dc_0 rfl rfl ?_
        refine z_getC dX11_evening_49 tF_11_153 hE dc_11 rfl rfl ?_
        refine z_iconst (v := 1) dX11_evening_52 (by decide) ?_
        refine z_ialoadL (i := 1) dX11_evening_53 hE dc_12 (by decide) (by decide) ?_
        obtain ⟨r14, S13, k15, hf⟩ := zb_some hf
        refine z_callVi dX11_evening_54 tM_11_349 mt_11052 (Nat.le_of_ble_eq_true rfl) rfl rfl (z_recv hE dc_0 rfl) rfl (ia_oks_le hn1 rfl) (Nat.le_of_ble_eq_true rfl) (w_X11_draw hn1 hn2 (d + 3) hE k15) (fun h hE => ?_)
        refine z_istore (lv' := [(6, .int r14), (0, .ref 0), (1, .int i1), (2, .long i2), (4, .int x4), (5, .int x5)]) dX11_evening_57 (by decide) rfl ?_
        refine z_aload_n dX11_evening_59 rfl ?_
        refine z_aload_n dX11_evening_60 rfl ?_
        refine z_getC dX11_evening_61 tF_11_42 hE dc_0 rfl rfl ?_
        refine z_getC dX11_evening_64 tF_11_153 hE dc_11 rfl rfl ?_
        refine z_iconst (v := 2) dX11_evening_67 (by decide) ?_
        refine z_ialoadL (i := 2) dX11_evening_68 hE dc_12 (by decide) (by decide) ?_
        refine z_iconst (v := 1) dX11_evening_69 (by decide) ?_
        refine z_iadd dX11_evening_70 ?_
        obtain ⟨r17, S16, k18, hf⟩ := zb_some hf
        refine z_callVi dX11_evening_71 tM_11_349 mt_11052 (Nat.le_of_ble_eq_true rfl) rfl rfl (z_recv hE dc_0 rfl) rfl (ia_oks_le hn1 rfl) (Nat.le_of_ble_eq_true rfl) (w_X11_draw hn1 hn2 (d + 3) hE k18) (fun h hE => ?_)
        refine z_istore (lv' := [(7, .int r17), (6, .int r14), (0, .ref 0), (1, .int i1), (2, .long i2), (4, .int x4), (5, .int x5)]) dX11_evening_74 (by decide) rfl ?_
        refine z_iload dX11_evening_76 rfl ?_
        refine z_aload_n dX11_evening_78 rfl ?_
        refine z_getC dX11_evening_79 tF_11_42 hE dc_0 rfl rfl ?_
        refine z_getC dX11_evening_82 tF_11_153 hE dc_11 rfl rfl ?_
        refine z_iconst (v := 2) dX11_evening_85 (by decide) ?_
        refine z_ialoadL (i := 2) dX11_evening_86 hE dc_12 (by decide) (by decide) ?_
        obtain ⟨J20, eJ20, hf⟩ := zl_some hf
        have hJ20 : ∀ (q21 : Int32) (h : Nat → va_E), zE (zDc t.1) h0 S16 (h, t) → J20 q21 = some R → zW (ia_P0 L xs fm) ia_nx (d + 4) 11 false cX11_evening 10 (some .int) 93 [(0, .ref 0), (1, .int i1), (2, .long i2), (4, .int x4), (5, .int x5), (6, .int r14), (7, .int q21)] [] (h, t) (zQi (zDc t.1) h0 t R) := by
          intro q21 h hE hf
          rw [eJ20] at hf
          refine z_aload_n dX11_evening_93 rfl ?_
          refine z_aload_n dX11_evening_94 rfl ?_
          refine z_getC dX11_evening_95 tF_11_42 hE dc_0 rfl rfl ?_
          refine z_iconst (v := 1) dX11_evening_98 (by decide) ?_
          refine z_iload dX11_evening_99 rfl ?_
          refine z_iconst (v := 4) dX11_evening_101 (by decide) ?_
          obtain ⟨r23, S22, k24, hf⟩ := zb_some hf
          refine z_callVi dX11_evening_102 tM_11_192 mt_10004 (Nat.le_of_ble_eq_true rfl) rfl rfl (z_recv hE dc_11 rfl) rfl (ia_oks_le hn1 rfl) (Nat.le_of_ble_eq_true rfl) (w_X10_item hn1 hn2 (d + 2) hE k24) (fun h hE => ?_)
          refine z_iconst (v := 1) dX11_evening_105 (by decide) ?_
          refine z_iadd dX11_evening_106 ?_
          obtain ⟨r26, S25, k27, hf⟩ := zb_some hf
          refine z_callVi dX11_evening_107 tM_11_349 mt_11052 (Nat.le_of_ble_eq_true rfl) rfl rfl (z_recv hE dc_0 rfl) rfl (ia_oks_le hn1 rfl) (Nat.le_of_ble_eq_true rfl) (w_X11_draw hn1 hn2 (d + 3) hE k27) (fun h hE => ?_)
          refine z_istore (lv' := [(8, .int r26), (0, .ref 0), (1, .int i1), (2, .long i2), (4, .int x4), (5, .int x5), (6, .int r14), (7, .int q21)]) dX11_evening_110 (by decide) rfl ?_
          refine z_iconst (v := 0) dX11_evening_112 (by decide) ?_
          refine z_aload_n dX11_evening_113 rfl ?_
          refine z_getC dX11_evening_114 tF_11_58 hE dc_0 rfl rfl ?_
          refine z_iload dX11_evening_117 rfl ?_
          refine z_iload dX11_evening_119 rfl ?_
          refine z_aload_n dX11_evening_121 rfl ?_
          refine z_getC dX11_evening_122 tF_11_58 hE dc_0 rfl rfl ?_
          obtain ⟨r29, S28, k30, hf⟩ := zb_some hf
          refine z_callVi dX11_evening_125 tM_11_234 mt_7010 (Nat.le_of_ble_eq_true rfl) rfl rfl (z_recv hE dc_17 rfl) rfl (ia_oks_le hn1 rfl) (Nat.le_of_ble_eq_true rfl) (w_X7_onTable hn1 hn2 (d + 3) sc_17 hE k30) (fun h hE => ?_)
          obtain ⟨r32, S31, k33, hf⟩ := zb_some hf
          refine z_callVi dX11_evening_128 tM_11_212 mt_7006 (Nat.le_of_ble_eq_true rfl) rfl rfl (z_recv hE dc_17 rfl) rfl (ia_oks_le hn1 rfl) (Nat.le_of_ble_eq_true rfl) (w_X7_gripOn hn1 hn2 (d + 1) sc_17 hE k33) (fun h hE => ?_)
          refine z_iload dX11_evening_131 rfl ?_
          refine z_isub dX11_evening_133 ?_
          refine z_mmax dX11_evening_134 tM_11_218 (Nat.le_of_ble_eq_true rfl) ?_
          obtain ⟨y34, ey34, hf⟩ := zl_some hf
          refine z_topi ey34 ?_
          refine z_istore (lv' := [(9, .int y34), (8, .int r26), (0, .ref 0), (1, .int i1), (2, .long i2), (4, .int x4), (5, .int x5), (6, .int r14), (7, .int q21)]) dX11_evening_137 (by decide) rfl ?_
          refine z_aload_n dX11_evening_139 rfl ?_
          refine z_getC dX11_evening_140 tF_11_68 hE dc_0 rfl rfl ?_
          refine z_aload_n dX11_evening_143 rfl ?_
          refine z_getC dX11_evening_144 tF_11_58 hE dc_0 rfl rfl ?_
          obtain ⟨r36, S35, k37, hf⟩ := zb_some hf
          refine z_callVv dX11_evening_147 tM_11_230 mt_1002 (Nat.le_of_ble_eq_true rfl) rfl rfl (z_recv hE dc_21 rfl) rfl (ia_oks_le hn1 rfl) (Nat.le_of_ble_eq_true rfl) (w_X1_keep_17 hn1 hn2 (d + 3) hE k37) (fun h hE => ?_)
          refine z_aload_n dX11_evening_150 rfl ?_
          refine z_getC dX11_evening_151 tF_11_58 hE dc_0 rfl rfl ?_
          refine z_iload dX11_evening_154 rfl ?_
          refine z_iload dX11_evening_156 rfl ?_
          obtain ⟨r39, S38, k40, hf⟩ := zb_some hf
          refine z_callVv dX11_evening_158 tM_11_237 mt_7011 (Nat.le_of_ble_eq_true rfl) rfl rfl (z_recv hE dc_17 rfl) rfl (ia_oks_le hn1 rfl) (Nat.le_of_ble_eq_true rfl) (w_X7_tryLid hn1 hn2 (d + 0) sc_17 hE k40) (fun h hE => ?_)
          refine z_aload_n dX11_evening_161 rfl ?_
          refine z_getC dX11_evening_162 tF_11_68 hE dc_0 rfl rfl ?_
          refine z_iload dX11_evening_165 rfl ?_
          refine z_iload dX11_evening_167 rfl ?_
          obtain ⟨r42, S41, k43, hf⟩ := zb_some hf
          refine z_callSi dX11_evening_169 tM_11_227 (by decide) mt_11020 (Nat.le_of_ble_eq_true rfl) rfl rfl (ia_oks_le hn1 rfl) (Nat.le_of_ble_eq_true rfl) (w_X11_tryCode hn1 hn2 (d + 3) hE k43) (fun h hE => ?_)
          refine z_aload_n dX11_evening_172 rfl ?_
          refine z_getC dX11_evening_173 tF_11_58 hE dc_0 rfl rfl ?_
          obtain ⟨r45, S44, k46, hf⟩ := zb_some hf
          refine z_callVi dX11_evening_176 tM_11_244 mt_7017 (Nat.le_of_ble_eq_true rfl) rfl rfl (z_recv hE dc_17 rfl) rfl (ia_oks_le hn1 rfl) (Nat.le_of_ble_eq_true rfl) (w_X7_minute hn1 hn2 (d + 3) sc_17 hE k46) (fun h hE => ?_)
          obtain ⟨r48, S47, k49, hf⟩ := zb_some hf
          refine z_callVv dX11_evening_179 tM_11_247 mt_1003 (Nat.le_of_ble_eq_true rfl) rfl rfl (z_recv hE dc_21 rfl) rfl (ia_oks_le hn1 rfl) (Nat.le_of_ble_eq_true rfl) (w_X1_note hn1 hn2 (d + 3) hE k49) (fun h hE => ?_)
          obtain ⟨y50, ey50, hf⟩ := zl_some hf
          refine z_iincY (v := 1) (y := y50) (lv' := [(4, .int y50), (9, .int y34), (8, .int r26), (0, .ref 0), (1, .int i1), (2, .long i2), (5, .int x5), (6, .int r14), (7, .int q21)]) dX11_evening_182 rfl (by decide) (by decide) ey50 rfl ?_
          obtain ⟨y51, ey51, hf⟩ := zl_some hf
          refine z_iincY (v := 1) (y := y51) (lv' := [(5, .int y51), (4, .int y50), (9, .int y34), (8, .int r26), (0, .ref 0), (1, .int i1), (2, .long i2), (6, .int r14), (7, .int q21)]) dX11_evening_185 rfl (by decide) (by decide) ey51 rfl ?_
          refine z_goto (tgt := 31) dX11_evening_188 (by decide) ?_
          exact zW.sub (ih y50 y51 S47 _ hE hf) [4, 5, 6, 1, 0] rfl rfl rfl rfl
        by_cases c19 : ¬ r17 = (S16.1 12 2)
        · have hf := zif_t hf c19
          refine z_icmp_ne_t (tgt := 93) dX11_evening_87 (by decide) c19 ?_
          exact zW.sub (hJ20 r17 _ hE hf) [2, 3, 4, 5, 6, 1, 0] rfl rfl rfl rfl
        · have hf := zif_f hf c19
          refine z_icmp_ne_f (tgt := 93) dX11_evening_87 (by decide) c19 ?_
          refine z_iconst (v := (-1)) dX11_evening_90 (by decide) ?_
          refine z_istore (lv' := [(7, .int (-1)), (6, .int r14), (0, .ref 0), (1, .int i1), (2, .long i2), (4, .int x4), (5, .int x5)]) dX11_evening_91 (by decide) rfl ?_
          exact zW.sub (hJ20 (-1) _ hE hf) [2, 3, 4, 5, 6, 1, 0] rfl rfl rfl rfl
theorem w_X11_evening {L : Nat} {xs : Nat → Int32} {fm : Bool} {h0 : Nat → va_E} {t : Nat × Nat × Nat} (hn1 : 64 ≤ t.1) (hn2 : t.1 ≤ 1000000) (d : Nat) {h : Nat → va_E} {S : zS} (hE : zE (zDc t.1) h0 S (h, t)) {v1 : Int32} {v2 : Int64} {R : Int32 × zS} (hf : f_X11_evening v1 v2 S = some R) : zC (ia_P0 L xs fm) (d + 5) 11051 [.ref 0, .int v1, .long v2] (h, t) (zQi (zDc t.1) h0 t R) := by
  refine zC_of mt_11051 nn_11051 (Nat.le_of_ble_eq_true rfl) ?_
  refine zW_lv (lv' := [(0, .ref 0), (1, .int v1), (2, .long v2)]) rfl ?_
  unfold f_X11_evening at hf
  refine z_iload_n dX11_evening_0 rfl ?_
  refine z_iconst (v := 1) dX11_evening_1 (by decide) ?_
  by_cases c1 : v1 < 1
  · have hf := zif_t hf c1
    refine z_icmp_lt_t (tgt := 18) dX11_evening_2 (by decide) c1 ?_
    refine z_iconst (v := (-1)) dX11_evening_18 (by decide) ?_
    have e_ := Option.some.inj hf
    subst e_
    exact z_ireturn dX11_evening_19 rfl ⟨h, rfl, rfl, hE⟩
  · have hf := zif_f hf c1
    refine z_icmp_lt_f (tgt := 18) dX11_evening_2 (by decide) c1 ?_
    refine z_iload_n dX11_evening_5 rfl ?_
    refine z_bipush (v := 40) dX11_evening_6 (by decide) ?_
    by_cases c2 : 40 < v1
    · have hf := zif_t hf c2
      refine z_icmp_gt_t (tgt := 18) dX11_evening_8 (by decide) c2 ?_
      refine z_iconst (v := (-1)) dX11_evening_18 (by decide) ?_
      have e_ := Option.some.inj hf
      subst e_
      exact z_ireturn dX11_evening_19 rfl ⟨h, rfl, rfl, hE⟩
    · have hf := zif_f hf c2
      refine z_icmp_gt_f (tgt := 18) dX11_evening_8 (by decide) c2 ?_
      refine z_aload_n dX11_evening_11 rfl ?_
      obtain ⟨r4, S3, k5, hf⟩ := zb_some hf
      refine z_callVi dX11_evening_12 tM_11_223 mt_11019 (Nat.le_of_ble_eq_true rfl) rfl rfl (z_recv hE dc_0 rfl) rfl (ia_oks_le hn1 rfl) (Nat.le_of_ble_eq_true rfl) (w_X11_lidIsShut hn1 hn2 (d + 1) hE k5) (fun h hE => ?_)
      by_cases c6 : ¬ r4 = 0
      · have hf := zif_t hf c6
        refine z_if_ne_t (tgt := 20) dX11_evening_15 (by decide) c6 ?_
        refine z_aload_n dX11_evening_20 rfl ?_
        refine z_lload_n dX11_evening_21 rfl ?_
        obtain ⟨S7, eS7, hf⟩ := zl_some hf
        refine z_putK dX11_evening_22 tF_11_345 hE dc_0 rfl rfl rfl rfl (fun h hE => ?_)
        rw [← eS7] at hE
        refine z_iconst (v := 0) dX11_evening_25 (by decide) ?_
        refine z_istore (lv' := [(4, .int 0), (0, .ref 0), (1, .int v1), (2, .long v2)]) dX11_evening_26 (by decide) rfl ?_
        refine z_iconst (v := 0) dX11_evening_28 (by decide) ?_
        refine z_istore (lv' := [(5, .int 0), (4, .int 0), (0, .ref 0), (1, .int v1), (2, .long v2)]) dX11_evening_29 (by decide) rfl ?_
        refine zW.sub (w_X11_evening_L31 hn1 hn2 d (fun q53 q54 S52 h hE hf => ?_) zN 0 0 S7 h hE hf) [2, 3, 4, 1, 0] rfl rfl rfl rfl
        try dsimp only at hf
        refine z_iload dX11_evening_191 rfl ?_
        have e_ := Option.some.inj hf
        subst e_
        exact z_ireturn dX11_evening_193 rfl ⟨h, rfl, rfl, hE⟩
      · have hf := zif_f hf c6
        refine z_if_ne_f (tgt := 20) dX11_evening_15 (by decide) c6 ?_
        refine z_iconst (v := (-1)) dX11_evening_18 (by decide) ?_
        have e_ := Option.some.inj hf
        subst e_
        exact z_ireturn dX11_evening_19 rfl ⟨h, rfl, rfl, hE⟩
end ZX
