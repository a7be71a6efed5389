section ZX
def f_X12_bytesIn_L5 (ex : Int32 → Int32 → zS → Option (Int32 × zS)) (i0 : Int32) : Nat → Int32 → Int32 → zS → Option (Int32 × zS)
  | 0, _, _, _ => none
  | k + 1, x1, x2, S =>
    if x2 < 0 then
    ex x1 x2 S
    else
    zl (fun (q4 : Int32) =>
    zl (x1 + q4) fun (y5 : Int32) =>
    zl (x2 + (-8)) fun (y6 : Int32) =>
    f_X12_bytesIn_L5 ex i0 k y5 y6 S) fun J3 =>
    if ((i0 >>> (x2 &&& 31)) &&& 255) = 0 then
    J3 0
    else
    J3 1
def f_X12_bytesIn (v0 : Int32) (S : zS) : Option (Int32 × zS) :=
f_X12_bytesIn_L5 (fun (q8 : Int32) (q9 : Int32) (S7 : zS) =>
some (q8, S7)) v0 zN 0 24 S
theorem w_X12_bytesIn_L5 {L : Nat} {xs : Nat → Int32} {fm : Bool} {h0 : Nat → va_E} {t : Nat × Nat × Nat} (hn1 : 64 ≤ t.1) (hn2 : t.1 ≤ 1000000) (d : Nat) {ex : Int32 → Int32 → zS → Option (Int32 × zS)} {i0 : Int32} {R : Int32 × zS} (hex : ∀ (x1 : Int32) (x2 : Int32) (S : zS) (h : Nat → va_E), zE zDr h0 S (h, t) → ex x1 x2 S = some R → zW (ia_P0 L xs fm) ia_nx (d + 0) 12 false cX12_bytesIn 3 (some .int) 33 [(0, .int i0), (1, .int x1), (2, .int x2)] [] (h, t) (zQi zDr h0 t R)) : ∀ (k : Nat) (x1 : Int32) (x2 : Int32) (S : zS) (h : Nat → va_E), zE zDr h0 S (h, t) → f_X12_bytesIn_L5 ex i0 k x1 x2 S = some R → zW (ia_P0 L xs fm) ia_nx (d + 0) 12 false cX12_bytesIn 3 (some .int) 5 [(0, .int i0), (1, .int x1), (2, .int x2)] [] (h, t) (zQi zDr h0 t R) := by
  intro k
  induction k with
  | zero => intro x1 x2 S h hE hf; cases hf
  | succ k ih =>
    intro x1 x2 S h hE hf
    unfold f_X12_bytesIn_L5 at hf
    refine z_iload_n dX12_bytesIn_5 rfl ?_
    by_cases c1 : x2 < 0
    · have hf := zif_t hf c1
      refine z_if_lt_t (tgt := 33) dX12_bytesIn_6 (by decide) c1 ?_
      exact zW.sub (hex x1 x2 S _ hE hf) [0, 1, 2] rfl rfl rfl rfl
    · have hf := zif_f hf c1
      refine z_if_lt_f (tgt := 33) dX12_bytesIn_6 (by decide) c1 ?_
      refine z_iload_n dX12_bytesIn_9 rfl ?_
      refine z_iload_n dX12_bytesIn_10 rfl ?_
      refine z_iload_n dX12_bytesIn_11 rfl ?_
      refine z_ishr dX12_bytesIn_12 ?_
      refine z_sipush (v := 255) dX12_bytesIn_13 (by decide) ?_
      refine z_iand dX12_bytesIn_16 ?_
      obtain ⟨J3, eJ3, hf⟩ := zl_some hf
      have hJ3 : ∀ (q4 : Int32) (h : Nat → va_E), zE zDr h0 S (h, t) → J3 q4 = some R → zW (ia_P0 L xs fm) ia_nx (d + 0) 12 false cX12_bytesIn 3 (some .int) 25 [(0, .int i0), (1, .int x1), (2, .int x2)] [.int q4, .int x1] (h, t) (zQi zDr h0 t R) := by
        intro q4 h hE hf
        rw [eJ3] at hf
        refine z_iadd dX12_bytesIn_25 ?_
        obtain ⟨y5, ey5, hf⟩ := zl_some hf
        refine z_topi ey5 ?_
        refine z_istore_n (lv' := [(1, .int y5), (0, .int i0), (2, .int x2)]) dX12_bytesIn_26 (by decide) rfl ?_
        obtain ⟨y6, ey6, hf⟩ := zl_some hf
        refine z_iincY (v := (-8)) (y := y6) (lv' := [(2, .int y6), (1, .int y5), (0, .int i0)]) dX12_bytesIn_27 rfl (by decide) (by decide) ey6 rfl ?_
        refine z_goto (tgt := 5) dX12_bytesIn_30 (by decide) ?_
        exact zW.sub (ih y5 y6 S _ hE hf) [2, 1, 0] rfl rfl rfl rfl
      by_cases c2 : ((i0 >>> (x2 &&& 31)) &&& 255) = 0
      · have hf := zif_t hf c2
        refine z_if_eq_t (tgt := 24) dX12_bytesIn_17 (by decide) c2 ?_
        refine z_iconst (v := 0) dX12_bytesIn_24 (by decide) ?_
        exact zW.sub (hJ3 0 _ hE hf) [0, 1, 2] rfl rfl rfl rfl
      · have hf := zif_f hf c2
        refine z_if_eq_f (tgt := 24) dX12_bytesIn_17 (by decide) c2 ?_
        refine z_iconst (v := 1) dX12_bytesIn_20 (by decide) ?_
        refine z_goto (tgt := 25) dX12_bytesIn_21 (by decide) ?_
        exact zW.sub (hJ3 1 _ hE hf) [0, 1, 2] rfl rfl rfl rfl
theorem w_X12_bytesIn {L : Nat} {xs : Nat → Int32} {fm : Bool} {h0 : Nat → va_E} {t : Nat × Nat × Nat} (hn1 : 64 ≤ t.1) (hn2 : t.1 ≤ 1000000) (d : Nat) {h : Nat → va_E} {S : zS} (hE : zE zDr h0 S (h, t)) {v0 : Int32} {R : Int32 × zS} (hf : f_X12_bytesIn v0 S = some R) : zC (ia_P0 L xs fm) (d + 1) 12003 [.int v0] (h, t) (zQi zDr h0 t R) := by
  refine zC_of mt_12003 nn_12003 (Nat.le_of_ble_eq_true rfl) ?_
  refine zW_lv (lv' := [(0, .int v0)]) rfl ?_
  unfold f_X12_bytesIn at hf
  refine z_iconst (v := 0) dX12_bytesIn_0 (by decide) ?_
  refine z_istore_n (lv' := [(1, .int 0), (0, .int v0)]) dX12_bytesIn_1 (by decide) rfl ?_
  refine z_bipush (v := 24) dX12_bytesIn_2 (by decide) ?_
  refine z_istore_n (lv' := [(2, .int 24), (1, .int 0), (0, .int v0)]) dX12_bytesIn_4 (by decide) rfl ?_
  refine zW.sub (w_X12_bytesIn_L5 hn1 hn2 d (fun q8 q9 S7 h hE hf => ?_) zN 0 24 S h hE hf) [2, 1, 0] rfl rfl rfl rfl
  try dsimp only at hf
  refine z_iload_n dX12_bytesIn_33 rfl ?_
  have e_ := Option.some.inj hf
  subst e_
  exact z_ireturn dX12_bytesIn_34 rfl ⟨h, rfl, rfl, hE⟩
def f_X12_put_L3 (ex : Int32 → zS → Option (Unit × zS)) (i1 : Int32) : Nat → Int32 → zS → Option (Unit × zS)
  | 0, _, _ => none
  | k + 1, x2, S =>
    if x2 < 0 then
    ex x2 S
    else
    zl (fun (S4 : zS) =>
    zl (x2 + (-8)) fun (y5 : Int32) =>
    f_X12_put_L3 ex i1 k y5 S4) fun J3 =>
    if ¬ ((i1 >>> (x2 &&& 31)) &&& 255) = 0 then
    if ia_in (S.1 41 6) 200 = true then
    zl (sV S 42 ((S.1 41 6).toNatClampNeg) (vp_nar .byte ((i1 >>> (x2 &&& 31)).toInt8.toInt32))) fun S7 =>
    zl (sV S7 41 6 ((S7.1 41 6) + 1)) fun S8 =>
    J3 S8
    else none
    else
    J3 S
def f_X12_put (v1 : Int32) (S : zS) : Option (Unit × zS) :=
f_X12_put_L3 (fun (q10 : Int32) (S9 : zS) =>
some ((), S9)) v1 zN 24 S
theorem w_X12_put_L3 {L : Nat} {xs : Nat → Int32} {fm : Bool} {h0 : Nat → va_E} {t : Nat × Nat × Nat} (hn1 : 64 ≤ t.1) (hn2 : t.1 ≤ 1000000) (d : Nat) {ex : Int32 → zS → Option (Unit × zS)} {i1 : Int32} {R : Unit × zS} (hex : ∀ (x2 : Int32) (S : zS) (h : Nat → va_E), zE zDr h0 S (h, t) → ex x2 S = some R → zW (ia_P0 L xs fm) ia_nx (d + 0) 12 false cX12_put 3 (none) 49 [(0, .ref 41), (1, .int i1), (2, .int x2)] [] (h, t) (zQv zDr h0 t R)) : ∀ (k : Nat) (x2 : Int32) (S : zS) (h : Nat → va_E), zE zDr h0 S (h, t) → f_X12_put_L3 ex i1 k x2 S = some R → zW (ia_P0 L xs fm) ia_nx (d + 0) 12 false cX12_put 3 (none) 3 [(0, .ref 41), (1, .int i1), (2, .int x2)] [] (h, t) (zQv zDr h0 t R) := by
  intro k
  induction k with
  | zero => intro x2 S h hE hf; cases hf
  | succ k ih =>
    intro x2 S h hE hf
    unfold f_X12_put_L3 at hf
    refine z_iload_n dX12_put_3 rfl ?_
    by_cases c1 : x2 < 0
    · have hf := zif_t hf c1
      refine z_if_lt_t (tgt := 49) dX12_put_4 (by decide) c1 ?_
      exact zW.sub (hex x2 S _ hE hf) [0, 1, 2] rfl rfl rfl rfl
    · have hf := zif_f hf c1
      refine z_if_lt_f (tgt := 49) dX12_put_4 (by decide) c1 ?_
      refine z_iload_n dX12_put_7 rfl ?_
      refine z_iload_n dX12_put_8 rfl ?_
      refine z_ishr dX12_put_9 ?_
      refine z_sipush (v := 255) dX12_put_10 (by decide) ?_
      refine z_iand dX12_put_13 ?_
      obtain ⟨J3, eJ3, hf⟩ := zl_some hf
      have hJ3 : ∀ (S4 : zS) (h : Nat → va_E), zE zDr h0 S4 (h, t) → J3 S4 = some R → zW (ia_P0 L xs fm) ia_nx (d + 0) 12 false cX12_put 3 (none) 43 [(0, .ref 41), (1, .int i1), (2, .int x2)] [] (h, t) (zQv zDr h0 t R) := by
        intro S4 h hE hf
        rw [eJ3] at hf
        obtain ⟨y5, ey5, hf⟩ := zl_some hf
        refine z_iincY (v := (-8)) (y := y5) (lv' := [(2, .int y5), (0, .ref 41), (1, .int i1)]) dX12_put_43 rfl (by decide) (by decide) ey5 rfl ?_
        refine z_goto (tgt := 3) dX12_put_46 (by decide) ?_
        exact zW.sub (ih y5 S4 _ hE hf) [1, 2, 0] rfl rfl rfl rfl
      by_cases c2 : ¬ ((i1 >>> (x2 &&& 31)) &&& 255) = 0
      · have hf := zif_t hf c2
        refine z_if_ne_t (tgt := 20) dX12_put_14 (by decide) c2 ?_
        refine z_aload_n dX12_put_20 rfl ?_
        refine z_getC dX12_put_21 tF_12_9 hE dr_41 rfl rfl ?_
        refine z_aload_n dX12_put_24 rfl ?_
        refine z_getI dX12_put_25 tF_12_106 hE dr_41 rfl rfl ?_
        refine z_iload_n dX12_put_28 rfl ?_
        refine z_iload_n dX12_put_29 rfl ?_
        refine z_ishr dX12_put_30 ?_
        refine z_i2b dX12_put_31 ?_
        obtain ⟨b6, hf⟩ := zchk hf
        obtain ⟨S7, eS7, hf⟩ := zl_some hf
        refine z_bastore dX12_put_32 hE dr_42 b6 (fun h hE => ?_)
        rw [← eS7] at hE
        refine z_aload_n dX12_put_33 rfl ?_
        refine z_dup dX12_put_34 rfl ?_
        refine z_getI dX12_put_35 tF_12_106 hE dr_41 rfl rfl ?_
        refine z_iconst (v := 1) dX12_put_38 (by decide) ?_
        refine z_iadd dX12_put_39 ?_
        obtain ⟨S8, eS8, hf⟩ := zl_some hf
        refine z_putI dX12_put_40 tF_12_106 hE dr_41 rfl rfl rfl rfl (fun h hE => ?_)
        rw [← eS8] at hE
        exact zW.sub (hJ3 S8 _ hE hf) [0, 1, 2] rfl rfl rfl rfl
      · have hf := zif_f hf c2
        refine z_if_ne_f (tgt := 20) dX12_put_14 (by decide) c2 ?_
        refine z_goto (tgt := 43) dX12_put_17 (by decide) ?_
        exact zW.sub (hJ3 S _ hE hf) [0, 1, 2] rfl rfl rfl rfl
theorem w_X12_put {L : Nat} {xs : Nat → Int32} {fm : Bool} {h0 : Nat → va_E} {t : Nat × Nat × Nat} (hn1 : 64 ≤ t.1) (hn2 : t.1 ≤ 1000000) (d : Nat) {h : Nat → va_E} {S : zS} (hE : zE zDr h0 S (h, t)) {v1 : Int32} {R : Unit × zS} (hf : f_X12_put v1 S = some R) : zC (ia_P0 L xs fm) (d + 1) 12004 [.ref 41, .int v1] (h, t) (zQv zDr h0 t R) := by
  refine zC_of mt_12004 nn_12004 (Nat.le_of_ble_eq_true rfl) ?_
  refine zW_lv (lv' := [(0, .ref 41), (1, .int v1)]) rfl ?_
  unfold f_X12_put at hf
  refine z_bipush (v := 24) dX12_put_0 (by decide) ?_
  refine z_istore_n (lv' := [(2, .int 24), (0, .ref 41), (1, .int v1)]) dX12_put_2 (by decide) rfl ?_
  refine zW.sub (w_X12_put_L3 hn1 hn2 d (fun q10 S9 h hE hf => ?_) zN 24 S h hE hf) [1, 2, 0] rfl rfl rfl rfl
  try dsimp only at hf
  have e_ := Option.some.inj hf
  subst e_
  exact z_vreturn dX12_put_49 rfl ⟨h, rfl, rfl, hE⟩
def f_X12_feed (v1 : Int32) (v2 : Int32) (v3 : Int32) (v4 : Int32) (v5 : Int32) (S : zS) : Option (Int32 × zS) :=
zl (sV S 41 0 0) fun S1 =>
zb (f_X12_bytesIn v1 S1) fun r3 S2 =>
zb (f_X12_bytesIn v2 S2) fun r6 S5 =>
zb (f_X12_bytesIn v3 S5) fun r9 S8 =>
zb (f_X12_bytesIn v4 S8) fun r12 S11 =>
zb (f_X12_bytesIn v5 S11) fun r15 S14 =>
if ((((((S1.1 41 6) + r3) + r6) + r9) + r12) + r15) ≤ 200 then
zb (f_X12_put v1 S14) fun _ S18 =>
zb (f_X12_put v2 S18) fun _ S21 =>
zb (f_X12_put v3 S21) fun _ S24 =>
zb (f_X12_put v4 S24) fun _ S27 =>
zb (f_X12_put v5 S27) fun _ S30 =>
some (S30.1 41 6, S30)
else
some ((-1), S14)
theorem w_X12_feed {L : Nat} {xs : Nat → Int32} {fm : Bool} {h0 : Nat → va_E} {t : Nat × Nat × Nat} (hn1 : 64 ≤ t.1) (hn2 : t.1 ≤ 1000000) (d : Nat) {h : Nat → va_E} {S : zS} (hE : zE zDr h0 S (h, t)) {v1 : Int32} {v2 : Int32} {v3 : Int32} {v4 : Int32} {v5 : Int32} {R : Int32 × zS} (hf : f_X12_feed v1 v2 v3 v4 v5 S = some R) : zC (ia_P0 L xs fm) (d + 2) 12002 [.ref 41, .int v1, .int v2, .int v3, .int v4, .int v5] (h, t) (zQi zDr h0 t R) := by
  refine zC_of mt_12002 nn_12002 (Nat.le_of_ble_eq_true rfl) ?_
  refine zW_lv (lv' := [(0, .ref 41), (1, .int v1), (2, .int v2), (3, .int v3), (4, .int v4), (5, .int v5)]) rfl ?_
  unfold f_X12_feed at hf
  refine z_aload_n dX12_feed_0 rfl ?_
  refine z_iconst (v := 0) dX12_feed_1 (by decide) ?_
  obtain ⟨S1, eS1, hf⟩ := zl_some hf
  refine z_putI dX12_feed_2 tF_12_93 hE dr_41 rfl rfl rfl rfl (fun h hE => ?_)
  rw [← eS1] at hE
  refine z_aload_n dX12_feed_5 rfl ?_
  refine z_getI dX12_feed_6 tF_12_106 hE dr_41 rfl rfl ?_
  refine z_iload_n dX12_feed_9 rfl ?_
  obtain ⟨r3, S2, k4, hf⟩ := zb_some hf
  refine z_callSi dX12_feed_10 tM_12_108 (by decide) mt_12003 (Nat.le_of_ble_eq_true rfl) rfl rfl (ia_oks_le hn1 rfl) (Nat.le_of_ble_eq_true rfl) (w_X12_bytesIn hn1 hn2 (d + 0) hE k4) (fun h hE => ?_)
  refine z_iadd dX12_feed_13 ?_
  refine z_iload_n dX12_feed_14 rfl ?_
  obtain ⟨r6, S5, k7, hf⟩ := zb_some hf
  refine z_callSi dX12_feed_15 tM_12_108 (by decide) mt_12003 (Nat.le_of_ble_eq_true rfl) rfl rfl (ia_oks_le hn1 rfl) (Nat.le_of_ble_eq_true rfl) (w_X12_bytesIn hn1 hn2 (d + 0) hE k7) (fun h hE => ?_)
  refine z_iadd dX12_feed_18 ?_
  refine z_iload_n dX12_feed_19 rfl ?_
  obtain ⟨r9, S8, k10, hf⟩ := zb_some hf
  refine z_callSi dX12_feed_20 tM_12_108 (by decide) mt_12003 (Nat.le_of_ble_eq_true rfl) rfl rfl (ia_oks_le hn1 rfl) (Nat.le_of_ble_eq_true rfl) (w_X12_bytesIn hn1 hn2 (d + 0) hE k10) (fun h hE => ?_)
  refine z_iadd dX12_feed_23 ?_
  refine z_iload dX12_feed_24 rfl ?_
  obtain ⟨r12, S11, k13, hf⟩ := zb_some hf
  refine z_callSi dX12_feed_26 tM_12_108 (by decide) mt_12003 (Nat.le_of_ble_eq_true rfl) rfl rfl (ia_oks_le hn1 rfl) (Nat.le_of_ble_eq_true rfl) (w_X12_bytesIn hn1 hn2 (d + 0) hE k13) (fun h hE => ?_)
  refine z_iadd dX12_feed_29 ?_
  refine z_iload dX12_feed_30 rfl ?_
  obtain ⟨r15, S14, k16, hf⟩ := zb_some hf
  refine z_callSi dX12_feed_32 tM_12_108 (by decide) mt_12003 (Nat.le_of_ble_eq_true rfl) rfl rfl (ia_oks_le hn1 rfl) (Nat.le_of_ble_eq_true rfl) (w_X12_bytesIn hn1 hn2 (d + 0) hE k16) (fun h hE => ?_)
  refine z_iadd dX12_feed_35 ?_
  refine z_sipush (v := 200) dX12_feed_36 (by decide) ?_
  by_cases c17 : ((((((S1.1 41 6) + r3) + r6) + r9) + r12) + r15) ≤ 200
  · have hf := zif_t hf c17
    refine z_icmp_le_t (tgt := 44) dX12_feed_39 (by decide) c17 ?_
    refine z_aload_n dX12_feed_44 rfl ?_
    refine z_iload_n dX12_feed_45 rfl ?_
    obtain ⟨r19, S18, k20, hf⟩ := zb_some hf
    refine z_callVv dX12_feed_46 tM_12_112 mt_12004 (Nat.le_of_ble_eq_true rfl) rfl rfl (z_recv hE dr_41 rfl) rfl (ia_oks_le hn1 rfl) (Nat.le_of_ble_eq_true rfl) (w_X12_put hn1 hn2 (d + 0) hE k20) (fun h hE => ?_)
    refine z_aload_n dX12_feed_49 rfl ?_
    refine z_iload_n dX12_feed_50 rfl ?_
    obtain ⟨r22, S21, k23, hf⟩ := zb_some hf
    refine z_callVv dX12_feed_51 tM_12_112 mt_12004 (Nat.le_of_ble_eq_true rfl) rfl rfl (z_recv hE dr_41 rfl) rfl (ia_oks_le hn1 rfl) (Nat.le_of_ble_eq_true rfl) (w_X12_put hn1 hn2 (d + 0) hE k23) (fun h hE => ?_)
    refine z_aload_n dX12_feed_54 rfl ?_
    refine z_iload_n dX12_feed_55 rfl ?_
    obtain ⟨r25, S24, k26, hf⟩ := zb_some hf
    refine z_callVv dX12_feed_56 tM_12_112 mt_12004 (Nat.le_of_ble_eq_true rfl) rfl rfl (z_recv hE dr_41 rfl) rfl (ia_oks_le hn1 rfl) (Nat.le_of_ble_eq_true rfl) (w_X12_put hn1 hn2 (d + 0) hE k26) (fun h hE => ?_)
    refine z_aload_n dX12_feed_59 rfl ?_
    refine z_iload dX12_feed_60 rfl ?_
    obtain ⟨r28, S27, k29, hf⟩ := zb_some hf
    refine z_callVv dX12_feed_62 tM_12_112 mt_12004 (Nat.le_of_ble_eq_true rfl) rfl rfl (z_recv hE dr_41 rfl) rfl (ia_oks_le hn1 rfl) (Nat.le_of_ble_eq_true rfl) (w_X12_put hn1 hn2 (d + 0) hE k29) (fun h hE => ?_)
    refine z_aload_n dX12_feed_65 rfl ?_
    refine z_iload dX12_feed_66 rfl ?_
    obtain ⟨r31, S30, k32, hf⟩ := zb_some hf
    refine z_callVv dX12_feed_68 tM_12_112 mt_12004 (Nat.le_of_ble_eq_true rfl) rfl rfl (z_recv hE dr_41 rfl) rfl (ia_oks_le hn1 rfl) (Nat.le_of_ble_eq_true rfl) (w_X12_put hn1 hn2 (d + 0) hE k32) (fun h hE => ?_)
    refine z_aload_n dX12_feed_71 rfl ?_
    refine z_getI dX12_feed_72 tF_12_106 hE dr_41 rfl rfl ?_
    have e_ := Option.some.inj hf
    subst e_
    exact z_ireturn dX12_feed_75 rfl ⟨h, rfl, rfl, hE⟩
  · have hf := zif_f hf c17
    refine z_icmp_le_f (tgt := 44) dX12_feed_39 (by decide) c17 ?_
    refine z_iconst (v := (-1)) dX12_feed_42 (by decide) ?_
    have e_ := Option.some.inj hf
    subst e_
    exact z_ireturn dX12_feed_43 rfl ⟨h, rfl, rfl, hE⟩
def f_X12_end (v1 : Int32) (S : zS) : Option (Int32 × zS) :=
zl (sV S 41 0 0) fun S1 =>
if v1 < 0 then
some (0, S1)
else
if v1 ≤ (S1.1 41 6) then
zl (sV S1 41 6 v1) fun S4 =>
some (1, S4)
else
some (0, S1)
theorem w_X12_end {L : Nat} {xs : Nat → Int32} {fm : Bool} {h0 : Nat → va_E} {t : Nat × Nat × Nat} (hn1 : 64 ≤ t.1) (hn2 : t.1 ≤ 1000000) (d : Nat) {h : Nat → va_E} {S : zS} (hE : zE zDr h0 S (h, t)) {v1 : Int32} {R : Int32 × zS} (hf : f_X12_end v1 S = some R) : zC (ia_P0 L xs fm) (d + 1) 12005 [.ref 41, .int v1] (h, t) (zQi zDr h0 t R) := by
  refine zC_of mt_12005 nn_12005 (Nat.le_of_ble_eq_true rfl) ?_
  refine zW_lv (lv' := [(0, .ref 41), (1, .int v1)]) rfl ?_
  unfold f_X12_end at hf
  refine z_aload_n dX12_end_0 rfl ?_
  refine z_iconst (v := 0) dX12_end_1 (by decide) ?_
  obtain ⟨S1, eS1, hf⟩ := zl_some hf
  refine z_putI dX12_end_2 tF_12_93 hE dr_41 rfl rfl rfl rfl (fun h hE => ?_)
  rw [← eS1] at hE
  refine z_iload_n dX12_end_5 rfl ?_
  by_cases c2 : v1 < 0
  · have hf := zif_t hf c2
    refine z_if_lt_t (tgt := 17) dX12_end_6 (by decide) c2 ?_
    refine z_iconst (v := 0) dX12_end_17 (by decide) ?_
    have e_ := Option.some.inj hf
    subst e_
    exact z_zreturn dX12_end_18 rfl (by decide) ⟨h, rfl, rfl, hE⟩
  · have hf := zif_f hf c2
    refine z_if_lt_f (tgt := 17) dX12_end_6 (by decide) c2 ?_
    refine z_iload_n dX12_end_9 rfl ?_
    refine z_aload_n dX12_end_10 rfl ?_
    refine z_getI dX12_end_11 tF_12_106 hE dr_41 rfl rfl ?_
    by_cases c3 : v1 ≤ (S1.1 41 6)
    · have hf := zif_t hf c3
      refine z_icmp_le_t (tgt := 19) dX12_end_14 (by decide) c3 ?_
      refine z_aload_n dX12_end_19 rfl ?_
      refine z_iload_n dX12_end_20 rfl ?_
      obtain ⟨S4, eS4, hf⟩ := zl_some hf
      refine z_putI dX12_end_21 tF_12_106 hE dr_41 rfl rfl rfl rfl (fun h hE => ?_)
      rw [← eS4] at hE
      refine z_iconst (v := 1) dX12_end_24 (by decide) ?_
      have e_ := Option.some.inj hf
      subst e_
      exact z_zreturn dX12_end_25 rfl (by decide) ⟨h, rfl, rfl, hE⟩
    · have hf := zif_f hf c3
      refine z_icmp_le_f (tgt := 19) dX12_end_14 (by decide) c3 ?_
      refine z_iconst (v := 0) dX12_end_17 (by decide) ?_
      have e_ := Option.some.inj hf
      subst e_
      exact z_zreturn dX12_end_18 rfl (by decide) ⟨h, rfl, rfl, hE⟩
def f_X12_isIn (v0 : Int64) (v2 : Int64) (v4 : Int64) (S : zS) : Option (Int32 × zS) :=
if (lg_cmp v0 v2) < 0 then
some (0, S)
else
if 0 < (lg_cmp v0 v4) then
some (0, S)
else
some (1, S)
theorem w_X12_isIn {L : Nat} {xs : Nat → Int32} {fm : Bool} {h0 : Nat → va_E} {t : Nat × Nat × Nat} (hn1 : 64 ≤ t.1) (hn2 : t.1 ≤ 1000000) (d : Nat) {h : Nat → va_E} {S : zS} (hE : zE zDr h0 S (h, t)) {v0 : Int64} {v2 : Int64} {v4 : Int64} {R : Int32 × zS} (hf : f_X12_isIn v0 v2 v4 S = some R) : zC (ia_P0 L xs fm) (d + 1) 12007 [.long v0, .long v2, .long v4] (h, t) (zQi zDr h0 t R) := by
  refine zC_of mt_12007 nn_12007 (Nat.le_of_ble_eq_true rfl) ?_
  refine zW_lv (lv' := [(0, .long v0), (2, .long v2), (4, .long v4)]) rfl ?_
  unfold f_X12_isIn at hf
  refine z_lload_n dX12_isIn_0 rfl ?_
  refine z_lload_n dX12_isIn_1 rfl ?_
  refine z_lcmp dX12_isIn_2 ?_
  by_cases c1 : (lg_cmp v0 v2) < 0
  · have hf := zif_t hf c1
    refine z_if_lt_t (tgt := 17) dX12_isIn_3 (by decide) c1 ?_
    refine z_iconst (v := 0) dX12_isIn_17 (by decide) ?_
    have e_ := Option.some.inj hf
    subst e_
    exact z_zreturn dX12_isIn_18 rfl (by decide) ⟨h, rfl, rfl, hE⟩
  · have hf := zif_f hf c1
    refine z_if_lt_f (tgt := 17) dX12_isIn_3 (by decide) c1 ?_
    refine z_lload_n dX12_isIn_6 rfl ?_
    refine z_lload dX12_isIn_7 rfl ?_
    refine z_lcmp dX12_isIn_9 ?_
    by_cases c2 : 0 < (lg_cmp v0 v4)
    · have hf := zif_t hf c2
      refine z_if_gt_t (tgt := 17) dX12_isIn_10 (by decide) c2 ?_
      refine z_iconst (v := 0) dX12_isIn_17 (by decide) ?_
      have e_ := Option.some.inj hf
      subst e_
      exact z_zreturn dX12_isIn_18 rfl (by decide) ⟨h, rfl, rfl, hE⟩
    · have hf := zif_f hf c2
      refine z_if_gt_f (tgt := 17) dX12_isIn_10 (by decide) c2 ?_
      refine z_iconst (v := 1) dX12_isIn_13 (by decide) ?_
      refine z_goto (tgt := 18) dX12_isIn_14 (by decide) ?_
      have e_ := Option.some.inj hf
      subst e_
      exact z_zreturn dX12_isIn_18 rfl (by decide) ⟨h, rfl, rfl, hE⟩
def f_X12_starts (b : Nat) (v2 : Int32) (v3 : Int32) (S : zS) : Option (Unit × zS) :=
zl (sK S 41 5 (.ref b)) fun S1 =>
zl (sV S1 41 8 v2) fun S2 =>
zl (sV S2 41 9 v3) fun S3 =>
zl (sV S3 41 10 0) fun S4 =>
zl (sV S4 41 11 (-1)) fun S5 =>
some ((), S5)
theorem w_X12_starts {L : Nat} {xs : Nat → Int32} {fm : Bool} {h0 : Nat → va_E} {t : Nat × Nat × Nat} (hn1 : 64 ≤ t.1) (hn2 : t.1 ≤ 1000000) (d : Nat) {b : Nat} (hb_b : b < 63) {h : Nat → va_E} {S : zS} (hE : zE zDr h0 S (h, t)) {v2 : Int32} {v3 : Int32} {R : Unit × zS} (hf : f_X12_starts b v2 v3 S = some R) : zC (ia_P0 L xs fm) (d + 1) 12009 [.ref 41, .ref b, .int v2, .int v3] (h, t) (zQv zDr h0 t R) := by
  refine zC_of mt_12009 nn_12009 (Nat.le_of_ble_eq_true rfl) ?_
  refine zW_lv (lv' := [(0, .ref 41), (1, .ref b), (2, .int v2), (3, .int v3)]) rfl ?_
  unfold f_X12_starts at hf
  refine z_aload_n dX12_starts_0 rfl ?_
  refine z_aload_n dX12_starts_1 rfl ?_
  obtain ⟨S1, eS1, hf⟩ := zl_some hf
  refine z_putK dX12_starts_2 tF_12_23 hE dr_41 rfl rfl rfl rfl (fun h hE => ?_)
  rw [← eS1] at hE
  refine z_aload_n dX12_starts_5 rfl ?_
  refine z_iload_n dX12_starts_6 rfl ?_
  obtain ⟨S2, eS2, hf⟩ := zl_some hf
  refine z_putI dX12_starts_7 tF_12_122 hE dr_41 rfl rfl rfl rfl (fun h hE => ?_)
  rw [← eS2] at hE
  refine z_aload_n dX12_starts_10 rfl ?_
  refine z_iload_n dX12_starts_11 rfl ?_
  obtain ⟨S3, eS3, hf⟩ := zl_some hf
  refine z_putI dX12_starts_12 tF_12_119 hE dr_41 rfl rfl rfl rfl (fun h hE => ?_)
  rw [← eS3] at hE
  refine z_aload_n dX12_starts_15 rfl ?_
  refine z_iconst (v := 0) dX12_starts_16 (by decide) ?_
  obtain ⟨S4, eS4, hf⟩ := zl_some hf
  refine z_putI dX12_starts_17 tF_12_116 hE dr_41 rfl rfl rfl rfl (fun h hE => ?_)
  rw [← eS4] at hE
  refine z_aload_n dX12_starts_20 rfl ?_
  refine z_iconst (v := (-1)) dX12_starts_21 (by decide) ?_
  obtain ⟨S5, eS5, hf⟩ := zl_some hf
  refine z_putI dX12_starts_22 tF_12_125 hE dr_41 rfl rfl rfl rfl (fun h hE => ?_)
  rw [← eS5] at hE
  have e_ := Option.some.inj hf
  subst e_
  exact z_vreturn dX12_starts_25 rfl ⟨h, rfl, rfl, hE⟩
def f_X12_look_L0 (ex : zS → Option (Int32 × zS))  : Nat → zS → Option (Int32 × zS)
  | 0, _ => none
  | k + 1, S =>
    if (S.1 41 9) ≤ (S.1 41 10) then
    ex  S
    else
    zkr (S.2.1 41 5) none fun a2 =>
    if a2 = 42 then
    if ia_in ((S.1 41 8) + (S.1 41 10)) 200 = true then
    if ¬ (S.1 42 ((S.1 41 8) + (S.1 41 10)).toNatClampNeg) = 32 then
    ex  S
    else
    zl (sV S 41 10 ((S.1 41 10) + 1)) fun S5 =>
    f_X12_look_L0 ex k S5
    else none
    else if a2 = 43 then
    if ia_in ((S.1 41 8) + (S.1 41 10)) 800 = true then
    if ¬ (S.1 43 ((S.1 41 8) + (S.1 41 10)).toNatClampNeg) = 32 then
    ex  S
    else
    zl (sV S 41 10 ((S.1 41 10) + 1)) fun S8 =>
    f_X12_look_L0 ex k S8
    else none
    else none
def f_X12_look  (S : zS) : Option (Int32 × zS) :=
f_X12_look_L0 (fun  (S9 : zS) =>
if (S9.1 41 9) ≤ (S9.1 41 10) then
some ((-1), S9)
else
zkr (S9.2.1 41 5) none fun a11 =>
if a11 = 42 then
if ia_in ((S9.1 41 8) + (S9.1 41 10)) 200 = true then
some ((S9.1 42 ((S9.1 41 8) + (S9.1 41 10)).toNatClampNeg) &&& 255, S9)
else none
else if a11 = 43 then
if ia_in ((S9.1 41 8) + (S9.1 41 10)) 800 = true then
some ((S9.1 43 ((S9.1 41 8) + (S9.1 41 10)).toNatClampNeg) &&& 255, S9)
else none
else none)  zN  S
theorem w_X12_look_L0 {L : Nat} {xs : Nat → Int32} {fm : Bool} {h0 : Nat → va_E} {t : Nat × Nat × Nat} (hn1 : 64 ≤ t.1) (hn2 : t.1 ≤ 1000000) (d : Nat) {ex : zS → Option (Int32 × zS)} {R : Int32 × zS} (hex : ∀  (S : zS) (h : Nat → va_E), zE zDr h0 S (h, t) → ex S = some R → zW (ia_P0 L xs fm) ia_nx (d + 0) 12 false cX12_look 1 (some .int) 43 [(0, .ref 41)] [] (h, t) (zQi zDr h0 t R)) : ∀ (k : Nat)  (S : zS) (h : Nat → va_E), zE zDr h0 S (h, t) → f_X12_look_L0 ex  k S = some R → zW (ia_P0 L xs fm) ia_nx (d + 0) 12 false cX12_look 1 (some .int) 0 [(0, .ref 41)] [] (h, t) (zQi zDr h0 t R) := by
  intro k
  induction k with
  | zero => intro S h hE hf; cases hf
  | succ k ih =>
    intro S h hE hf
    unfold f_X12_look_L0 at hf
    refine z_aload_n dX12_look_0 rfl ?_
    refine z_getI dX12_look_1 tF_12_116 hE dr_41 rfl rfl ?_
    refine z_aload_n dX12_look_4 rfl ?_
    refine z_getI dX12_look_5 tF_12_119 hE dr_41 rfl rfl ?_
    by_cases c1 : (S.1 41 9) ≤ (S.1 41 10)
    · have hf := zif_t hf c1
      refine z_icmp_ge_t (tgt := 43) dX12_look_8 (by decide) c1 ?_
      exact zW.sub (hex  S _ hE hf) [0] rfl rfl rfl rfl
    · have hf := zif_f hf c1
      refine z_icmp_ge_f (tgt := 43) dX12_look_8 (by decide) c1 ?_
      refine z_aload_n dX12_look_11 rfl ?_
      rcases zkr_some hf with ⟨-, hf⟩ | ⟨a2, ea2, hf⟩
      · cases hf
      · by_cases hqa2 : a2 = 42
        · replace hf := zif_t hf hqa2
          subst hqa2
          refine z_getK dX12_look_12 tF_12_23 hE dr_41 rfl rfl ?_
          refine z_topv ea2 ?_
          refine z_aload_n dX12_look_15 rfl ?_
          refine z_getI dX12_look_16 tF_12_122 hE dr_41 rfl rfl ?_
          refine z_aload_n dX12_look_19 rfl ?_
          refine z_getI dX12_look_20 tF_12_116 hE dr_41 rfl rfl ?_
          refine z_iadd dX12_look_23 ?_
          obtain ⟨b3, hf⟩ := zchk hf
          refine z_baload dX12_look_24 hE dr_42 b3 ?_
          refine z_bipush (v := 32) dX12_look_25 (by decide) ?_
          by_cases c4 : ¬ (S.1 42 ((S.1 41 8) + (S.1 41 10)).toNatClampNeg) = 32
          · have hf := zif_t hf c4
            refine z_icmp_ne_t (tgt := 43) dX12_look_27 (by decide) c4 ?_
            exact zW.sub (hex  S _ hE hf) [0] rfl rfl rfl rfl
          · have hf := zif_f hf c4
            refine z_icmp_ne_f (tgt := 43) dX12_look_27 (by decide) c4 ?_
            refine z_aload_n dX12_look_30 rfl ?_
            refine z_dup dX12_look_31 rfl ?_
            refine z_getI dX12_look_32 tF_12_116 hE dr_41 rfl rfl ?_
            refine z_iconst (v := 1) dX12_look_35 (by decide) ?_
            refine z_iadd dX12_look_36 ?_
            obtain ⟨S5, eS5, hf⟩ := zl_some hf
            refine z_putI dX12_look_37 tF_12_116 hE dr_41 rfl rfl rfl rfl (fun h hE => ?_)
            rw [← eS5] at hE
            refine z_goto (tgt := 0) dX12_look_40 (by decide) ?_
            exact zW.sub (ih  S5 _ hE hf) [0] rfl rfl rfl rfl
        · replace hf := zif_f hf hqa2
          have hwa2 := (zchk hf).1
          replace hf := (zchk hf).2
          clear hqa2
          subst hwa2
          refine z_getK dX12_look_12 tF_12_23 hE dr_41 rfl rfl ?_
          refine z_topv ea2 ?_
          refine z_aload_n dX12_look_15 rfl ?_
          refine z_getI dX12_look_16 tF_12_122 hE dr_41 rfl rfl ?_
          refine z_aload_n dX12_look_19 rfl ?_
          refine z_getI dX12_look_20 tF_12_116 hE dr_41 rfl rfl ?_
          refine z_iadd dX12_look_23 ?_
          obtain ⟨b6, hf⟩ := zchk hf
          refine z_baload dX12_look_24 hE dr_43 b6 ?_
          refine z_bipush (v := 32) dX12_look_25 (by decide) ?_
          by_cases c7 : ¬ (S.1 43 ((S.1 41 8) + (S.1 41 10)).toNatClampNeg) = 32
          · have hf := zif_t hf c7
            refine z_icmp_ne_t (tgt := 43) dX12_look_27 (by decide) c7 ?_
            exact zW.sub (hex  S _ hE hf) [0] rfl rfl rfl rfl
          · have hf := zif_f hf c7
            refine z_icmp_ne_f (tgt := 43) dX12_look_27 (by decide) c7 ?_
            refine z_aload_n dX12_look_30 rfl ?_
            refine z_dup dX12_look_31 rfl ?_
            refine z_getI dX12_look_32 tF_12_116 hE dr_41 rfl rfl ?_
            refine z_iconst (v := 1) dX12_look_35 (by decide) ?_
            refine z_iadd dX12_look_36 ?_
            obtain ⟨S8, eS8, hf⟩ := zl_some hf
            refine z_putI dX12_look_37 tF_12_116 hE dr_41 rfl rfl rfl rfl (fun h hE => ?_)
            rw [← eS8] at hE
            refine z_goto (tgt := 0) dX12_look_40 (by decide) ?_
            exact zW.sub (ih  S8 _ hE hf) [0] rfl rfl rfl rfl
theorem w_X12_look {L : Nat} {xs : Nat → Int32} {fm : Bool} {h0 : Nat → va_E} {t : Nat × Nat × Nat} (hn1 : 64 ≤ t.1) (hn2 : t.1 ≤ 1000000) (d : Nat) {h : Nat → va_E} {S : zS} (hE : zE zDr h0 S (h, t)) {R : Int32 × zS} (hf : f_X12_look  S = some R) : zC (ia_P0 L xs fm) (d + 1) 12011 [.ref 41] (h, t) (zQi zDr h0 t R) := by
  refine zC_of mt_12011 nn_12011 (Nat.le_of_ble_eq_true rfl) ?_
  refine zW_lv (lv' := [(0, .ref 41)]) rfl ?_
  unfold f_X12_look at hf
  refine zW.sub (w_X12_look_L0 hn1 hn2 d (fun  S9 h hE hf => ?_) zN  S h hE hf) [0] rfl rfl rfl rfl
  try dsimp only at hf
  refine z_aload_n dX12_look_43 rfl ?_
  refine z_getI dX12_look_44 tF_12_116 hE dr_41 rfl rfl ?_
  refine z_aload_n dX12_look_47 rfl ?_
  refine z_getI dX12_look_48 tF_12_119 hE dr_41 rfl rfl ?_
  by_cases c10 : (S9.1 41 9) ≤ (S9.1 41 10)
  · have hf := zif_t hf c10
    refine z_icmp_ge_t (tgt := 75) dX12_look_51 (by decide) c10 ?_
    refine z_iconst (v := (-1)) dX12_look_75 (by decide) ?_
    have e_ := Option.some.inj hf
    subst e_
    exact z_ireturn dX12_look_76 rfl ⟨h, rfl, rfl, hE⟩
  · have hf := zif_f hf c10
    refine z_icmp_ge_f (tgt := 75) dX12_look_51 (by decide) c10 ?_
    refine z_aload_n dX12_look_54 rfl ?_
    rcases zkr_some hf with ⟨-, hf⟩ | ⟨a11, ea11, hf⟩
    · cases hf
    · by_cases hqa11 : a11 = 42
      · replace hf := zif_t hf hqa11
        subst hqa11
        refine z_getK dX12_look_55 tF_12_23 hE dr_41 rfl rfl ?_
        refine z_topv ea11 ?_
        refine z_aload_n dX12_look_58 rfl ?_
        refine z_getI dX12_look_59 tF_12_122 hE dr_41 rfl rfl ?_
        refine z_aload_n dX12_look_62 rfl ?_
        refine z_getI dX12_look_63 tF_12_116 hE dr_41 rfl rfl ?_
        refine z_iadd dX12_look_66 ?_
        obtain ⟨b12, hf⟩ := zchk hf
        refine z_baload dX12_look_67 hE dr_42 b12 ?_
        refine z_sipush (v := 255) dX12_look_68 (by decide) ?_
        refine z_iand dX12_look_71 ?_
        refine z_goto (tgt := 76) dX12_look_72 (by decide) ?_
        have e_ := Option.some.inj hf
        subst e_
        exact z_ireturn dX12_look_76 rfl ⟨h, rfl, rfl, hE⟩
      · replace hf := zif_f hf hqa11
        have hwa11 := (zchk hf).1
        replace hf := (zchk hf).2
        clear hqa11
        subst hwa11
        refine z_getK dX12_look_55 tF_12_23 hE dr_41 rfl rfl ?_
        refine z_topv ea11 ?_
        refine z_aload_n dX12_look_58 rfl ?_
        refine z_getI dX12_look_59 tF_12_122 hE dr_41 rfl rfl ?_
        refine z_aload_n dX12_look_62 rfl ?_
        refine z_getI dX12_look_63 tF_12_116 hE dr_41 rfl rfl ?_
        refine z_iadd dX12_look_66 ?_
        obtain ⟨b13, hf⟩ := zchk hf
        refine z_baload dX12_look_67 hE dr_43 b13 ?_
        refine z_sipush (v := 255) dX12_look_68 (by decide) ?_
        refine z_iand dX12_look_71 ?_
        refine z_goto (tgt := 76) dX12_look_72 (by decide) ?_
        have e_ := Option.some.inj hf
        subst e_
        exact z_ireturn dX12_look_76 rfl ⟨h, rfl, rfl, hE⟩
def f_X12_usual (v0 : Int32) (v1 : Int32) (S : zS) : Option (Int32 × zS) :=
if ¬ v0 = 116 then
if ¬ v0 = 104 then
if v1.toInt < 0 ∨ 5 < v1.toInt then
some (0, S)
else
if v1 = 0 then
some (20, S)
else if v1 = 1 then
some (10, S)
else if v1 = 2 then
some (0, S)
else if v1 = 3 then
some (0, S)
else if v1 = 4 then
some (5, S)
else if v1 = 5 then
some (40, S)
else none
else
if ¬ v1 = 0 then
if ¬ v1 = 1 then
if ¬ v1 = 3 then
some (0, S)
else
some (2, S)
else
some (5, S)
else
some (30, S)
else
if ¬ v1 = 0 then
some (5, S)
else
some (10, S)
theorem w_X12_usual {L : Nat} {xs : Nat → Int32} {fm : Bool} {h0 : Nat → va_E} {t : Nat × Nat × Nat} (hn1 : 64 ≤ t.1) (hn2 : t.1 ≤ 1000000) (d : Nat) {h : Nat → va_E} {S : zS} (hE : zE zDr h0 S (h, t)) {v0 : Int32} {v1 : Int32} {R : Int32 × zS} (hf : f_X12_usual v0 v1 S = some R) : zC (ia_P0 L xs fm) (d + 1) 12013 [.int v0, .int v1] (h, t) (zQi zDr h0 t R) := by
  refine zC_of mt_12013 nn_12013 (Nat.le_of_ble_eq_true rfl) ?_
  refine zW_lv (lv' := [(0, .int v0), (1, .int v1)]) rfl ?_
  unfold f_X12_usual at hf
  refine z_iload_n dX12_usual_0 rfl ?_
  refine z_bipush (v := 116) dX12_usual_1 (by decide) ?_
  by_cases c1 : ¬ v0 = 116
  · have hf := zif_t hf c1
    refine z_icmp_ne_t (tgt := 17) dX12_usual_3 (by decide) c1 ?_
    refine z_iload_n dX12_usual_17 rfl ?_
    refine z_bipush (v := 104) dX12_usual_18 (by decide) ?_
    by_cases c2 : ¬ v0 = 104
    · have hf := zif_t hf c2
      refine z_icmp_ne_t (tgt := 52) dX12_usual_20 (by decide) c2 ?_
      refine z_iload_n dX12_usual_52 rfl ?_
      by_cases c3 : v1.toInt < 0 ∨ 5 < v1.toInt
      · have hf := zif_t hf c3
        refine z_tabO (tgt := 103) dX12_usual_53 c3 (by decide) ?_
        refine z_iconst (v := 0) dX12_usual_103 (by decide) ?_
        have e_ := Option.some.inj hf
        subst e_
        exact z_ireturn dX12_usual_104 rfl ⟨h, rfl, rfl, hE⟩
      · have hf := zif_f hf c3
        by_cases c4 : v1 = 0
        · have hf := zif_t hf c4
          refine z_tabI (off := 39) (tgt := 92) dX12_usual_53 c3 (by rw [c4]; rfl) (by decide) ?_
          refine z_bipush (v := 20) dX12_usual_92 (by decide) ?_
          have e_ := Option.some.inj hf
          subst e_
          exact z_ireturn dX12_usual_94 rfl ⟨h, rfl, rfl, hE⟩
        · have hf := zif_f hf c4
          by_cases c5 : v1 = 1
          · have hf := zif_t hf c5
            refine z_tabI (off := 42) (tgt := 95) dX12_usual_53 c3 (by rw [c5]; rfl) (by decide) ?_
            refine z_bipush (v := 10) dX12_usual_95 (by decide) ?_
            have e_ := Option.some.inj hf
            subst e_
            exact z_ireturn dX12_usual_97 rfl ⟨h, rfl, rfl, hE⟩
          · have hf := zif_f hf c5
            by_cases c6 : v1 = 2
            · have hf := zif_t hf c6
              refine z_tabI (off := 50) (tgt := 103) dX12_usual_53 c3 (by rw [c6]; rfl) (by decide) ?_
              refine z_iconst (v := 0) dX12_usual_103 (by decide) ?_
              have e_ := Option.some.inj hf
              subst e_
              exact z_ireturn dX12_usual_104 rfl ⟨h, rfl, rfl, hE⟩
            · have hf := zif_f hf c6
              by_cases c7 : v1 = 3
              · have hf := zif_t hf c7
                refine z_tabI (off := 50) (tgt := 103) dX12_usual_53 c3 (by rw [c7]; rfl) (by decide) ?_
                refine z_iconst (v := 0) dX12_usual_103 (by decide) ?_
                have e_ := Option.some.inj hf
                subst e_
                exact z_ireturn dX12_usual_104 rfl ⟨h, rfl, rfl, hE⟩
              · have hf := zif_f hf c7
                by_cases c8 : v1 = 4
                · have hf := zif_t hf c8
                  refine z_tabI (off := 45) (tgt := 98) dX12_usual_53 c3 (by rw [c8]; rfl) (by decide) ?_
                  refine z_iconst (v := 5) dX12_usual_98 (by decide) ?_
                  have e_ := Option.some.inj hf
                  subst e_
                  exact z_ireturn dX12_usual_99 rfl ⟨h, rfl, rfl, hE⟩
                · have hf := zif_f hf c8
                  by_cases c9 : v1 = 5
                  · have hf := zif_t hf c9
                    refine z_tabI (off := 47) (tgt := 100) dX12_usual_53 c3 (by rw [c9]; rfl) (by decide) ?_
                    refine z_bipush (v := 40) dX12_usual_100 (by decide) ?_
                    have e_ := Option.some.inj hf
                    subst e_
                    exact z_ireturn dX12_usual_102 rfl ⟨h, rfl, rfl, hE⟩
                  · have hf := zif_f hf c9
                    cases hf
    · have hf := zif_f hf c2
      refine z_icmp_ne_f (tgt := 52) dX12_usual_20 (by decide) c2 ?_
      refine z_iload_n dX12_usual_23 rfl ?_
      by_cases c10 : ¬ v1 = 0
      · have hf := zif_t hf c10
        refine z_if_ne_t (tgt := 32) dX12_usual_24 (by decide) c10 ?_
        refine z_iload_n dX12_usual_32 rfl ?_
        refine z_iconst (v := 1) dX12_usual_33 (by decide) ?_
        by_cases c11 : ¬ v1 = 1
        · have hf := zif_t hf c11
          refine z_icmp_ne_t (tgt := 41) dX12_usual_34 (by decide) c11 ?_
          refine z_iload_n dX12_usual_41 rfl ?_
          refine z_iconst (v := 3) dX12_usual_42 (by decide) ?_
          by_cases c12 : ¬ v1 = 3
          · have hf := zif_t hf c12
            refine z_icmp_ne_t (tgt := 50) dX12_usual_43 (by decide) c12 ?_
            refine z_iconst (v := 0) dX12_usual_50 (by decide) ?_
            have e_ := Option.some.inj hf
            subst e_
            exact z_ireturn dX12_usual_51 rfl ⟨h, rfl, rfl, hE⟩
          · have hf := zif_f hf c12
            refine z_icmp_ne_f (tgt := 50) dX12_usual_43 (by decide) c12 ?_
            refine z_iconst (v := 2) dX12_usual_46 (by decide) ?_
            refine z_goto (tgt := 51) dX12_usual_47 (by decide) ?_
            have e_ := Option.some.inj hf
            subst e_
            exact z_ireturn dX12_usual_51 rfl ⟨h, rfl, rfl, hE⟩
        · have hf := zif_f hf c11
          refine z_icmp_ne_f (tgt := 41) dX12_usual_34 (by decide) c11 ?_
          refine z_iconst (v := 5) dX12_usual_37 (by decide) ?_
          refine z_goto (tgt := 51) dX12_usual_38 (by decide) ?_
          have e_ := Option.some.inj hf
          subst e_
          exact z_ireturn dX12_usual_51 rfl ⟨h, rfl, rfl, hE⟩
      · have hf := zif_f hf c10
        refine z_if_ne_f (tgt := 32) dX12_usual_24 (by decide) c10 ?_
        refine z_bipush (v := 30) dX12_usual_27 (by decide) ?_
        refine z_goto (tgt := 51) dX12_usual_29 (by decide) ?_
        have e_ := Option.some.inj hf
        subst e_
        exact z_ireturn dX12_usual_51 rfl ⟨h, rfl, rfl, hE⟩
  · have hf := zif_f hf c1
    refine z_icmp_ne_f (tgt := 17) dX12_usual_3 (by decide) c1 ?_
    refine z_iload_n dX12_usual_6 rfl ?_
    by_cases c13 : ¬ v1 = 0
    · have hf := zif_t hf c13
      refine z_if_ne_t (tgt := 15) dX12_usual_7 (by decide) c13 ?_
      refine z_iconst (v := 5) dX12_usual_15 (by decide) ?_
      have e_ := Option.some.inj hf
      subst e_
      exact z_ireturn dX12_usual_16 rfl ⟨h, rfl, rfl, hE⟩
    · have hf := zif_f hf c13
      refine z_if_ne_f (tgt := 15) dX12_usual_7 (by decide) c13 ?_
      refine z_bipush (v := 10) dX12_usual_10 (by decide) ?_
      refine z_goto (tgt := 16) dX12_usual_12 (by decide) ?_
      have e_ := Option.some.inj hf
      subst e_
      exact z_ireturn dX12_usual_16 rfl ⟨h, rfl, rfl, hE⟩
def f_X12_placeOf_1000103_L2 (ex : Int32 → zS → Option (Int32 × zS)) (i1 : Int32) : Nat → Int32 → zS → Option (Int32 × zS)
  | 0, _, _ => none
  | k + 1, x2, S =>
    zb (f_J0_length_8abf5_1000103 S) fun r2 S1 =>
    if r2 ≤ x2 then
    ex x2 S1
    else
    zb (f_J0_charAt_5068e_1000103 x2 S1) fun r6 S5 =>
    if ¬ r6 = i1 then
    zl (x2 + 1) fun (y9 : Int32) =>
    f_X12_placeOf_1000103_L2 ex i1 k y9 S5
    else
    some (x2, S5)
def f_X12_placeOf_1000103 (v1 : Int32) (S : zS) : Option (Int32 × zS) :=
f_X12_placeOf_1000103_L2 (fun (q11 : Int32) (S10 : zS) =>
some ((-1), S10)) v1 zN 0 S
theorem w_X12_placeOf_1000103_L2 {L : Nat} {xs : Nat → Int32} {fm : Bool} {h0 : Nat → va_E} {t : Nat × Nat × Nat} (hn1 : 64 ≤ t.1) (hn2 : t.1 ≤ 1000000) (d : Nat) {ex : Int32 → zS → Option (Int32 × zS)} {i1 : Int32} {R : Int32 × zS} (hex : ∀ (x2 : Int32) (S : zS) (h : Nat → va_E), zE zDr h0 S (h, t) → ex x2 S = some R → zW (ia_P0 L xs fm) ia_nx (d + 4) 12 false cX12_placeOf 3 (some .int) 27 [(0, .ref 1000103), (1, .int i1), (2, .int x2)] [] (h, t) (zQi zDr h0 t R)) : ∀ (k : Nat) (x2 : Int32) (S : zS) (h : Nat → va_E), zE zDr h0 S (h, t) → f_X12_placeOf_1000103_L2 ex i1 k x2 S = some R → zW (ia_P0 L xs fm) ia_nx (d + 4) 12 false cX12_placeOf 3 (some .int) 2 [(0, .ref 1000103), (1, .int i1), (2, .int x2)] [] (h, t) (zQi zDr h0 t R) := by
  intro k
  induction k with
  | zero => intro x2 S h hE hf; cases hf
  | succ k ih =>
    intro x2 S h hE hf
    unfold f_X12_placeOf_1000103_L2 at hf
    refine z_iload_n dX12_placeOf_2 rfl ?_
    refine z_aload_n dX12_placeOf_3 rfl ?_
    obtain ⟨r2, S1, k3, hf⟩ := zb_some hf
    refine z_callVi dX12_placeOf_4 tM_12_96 mt_900003 (Nat.le_of_ble_eq_true rfl) rfl rfl (z_recvC (hp := (h, t)) (by decide) hn2 hc_1000103) rfl (ia_oks_le hn1 rfl) (Nat.le_of_ble_eq_true rfl) (w_J0_length_8abf5_1000103 hn1 hn2 (d + 2) hE k3) (fun h hE => ?_)
    by_cases c4 : r2 ≤ x2
    · have hf := zif_t hf c4
      refine z_icmp_ge_t (tgt := 27) dX12_placeOf_7 (by decide) c4 ?_
      exact zW.sub (hex x2 S1 _ hE hf) [0, 1, 2] rfl rfl rfl rfl
    · have hf := zif_f hf c4
      refine z_icmp_ge_f (tgt := 27) dX12_placeOf_7 (by decide) c4 ?_
      refine z_aload_n dX12_placeOf_10 rfl ?_
      refine z_iload_n dX12_placeOf_11 rfl ?_
      obtain ⟨r6, S5, k7, hf⟩ := zb_some hf
      refine z_callVi dX12_placeOf_12 tM_12_102 mt_900006 (Nat.le_of_ble_eq_true rfl) rfl rfl (z_recvC (hp := (h, t)) (by decide) hn2 hc_1000103) rfl (ia_oks_le hn1 rfl) (Nat.le_of_ble_eq_true rfl) (w_J0_charAt_5068e_1000103 hn1 hn2 (d + 0) hE k7) (fun h hE => ?_)
      refine z_iload_n dX12_placeOf_15 rfl ?_
      by_cases c8 : ¬ r6 = i1
      · have hf := zif_t hf c8
        refine z_icmp_ne_t (tgt := 21) dX12_placeOf_16 (by decide) c8 ?_
        obtain ⟨y9, ey9, hf⟩ := zl_some hf
        refine z_iincY (v := 1) (y := y9) (lv' := [(2, .int y9), (0, .ref 1000103), (1, .int i1)]) dX12_placeOf_21 rfl (by decide) (by decide) ey9 rfl ?_
        refine z_goto (tgt := 2) dX12_placeOf_24 (by decide) ?_
        exact zW.sub (ih y9 S5 _ hE hf) [1, 2, 0] rfl rfl rfl rfl
      · have hf := zif_f hf c8
        refine z_icmp_ne_f (tgt := 21) dX12_placeOf_16 (by decide) c8 ?_
        refine z_iload_n dX12_placeOf_19 rfl ?_
        have e_ := Option.some.inj hf
        subst e_
        exact z_ireturn dX12_placeOf_20 rfl ⟨h, rfl, rfl, hE⟩
theorem w_X12_placeOf_1000103 {L : Nat} {xs : Nat → Int32} {fm : Bool} {h0 : Nat → va_E} {t : Nat × Nat × Nat} (hn1 : 64 ≤ t.1) (hn2 : t.1 ≤ 1000000) (d : Nat) {h : Nat → va_E} {S : zS} (hE : zE zDr h0 S (h, t)) {v1 : Int32} {R : Int32 × zS} (hf : f_X12_placeOf_1000103 v1 S = some R) : zC (ia_P0 L xs fm) (d + 5) 12014 [.ref 1000103, .int v1] (h, t) (zQi zDr h0 t R) := by
  refine zC_of mt_12014 nn_12014 (Nat.le_of_ble_eq_true rfl) ?_
  refine zW_lv (lv' := [(0, .ref 1000103), (1, .int v1)]) rfl ?_
  unfold f_X12_placeOf_1000103 at hf
  refine z_iconst (v := 0) dX12_placeOf_0 (by decide) ?_
  refine z_istore_n (lv' := [(2, .int 0), (0, .ref 1000103), (1, .int v1)]) dX12_placeOf_1 (by decide) rfl ?_
  refine zW.sub (w_X12_placeOf_1000103_L2 hn1 hn2 d (fun q11 S10 h hE hf => ?_) zN 0 S h hE hf) [1, 2, 0] rfl rfl rfl rfl
  try dsimp only at hf
  refine z_iconst (v := (-1)) dX12_placeOf_27 (by decide) ?_
  have e_ := Option.some.inj hf
  subst e_
  exact z_ireturn dX12_placeOf_28 rfl ⟨h, rfl, rfl, hE⟩
def f_X12_has (v0 : Int32) (v1 : Int32) (S : zS) : Option (Int32 × zS) :=
if ¬ ((v0 >>> (v1 &&& 31)) &&& 1) = 1 then
some (0, S)
else
some (1, S)
theorem w_X12_has {L : Nat} {xs : Nat → Int32} {fm : Bool} {h0 : Nat → va_E} {t : Nat × Nat × Nat} (hn1 : 64 ≤ t.1) (hn2 : t.1 ≤ 1000000) (d : Nat) {h : Nat → va_E} {S : zS} (hE : zE zDr h0 S (h, t)) {v0 : Int32} {v1 : Int32} {R : Int32 × zS} (hf : f_X12_has v0 v1 S = some R) : zC (ia_P0 L xs fm) (d + 1) 12015 [.int v0, .int v1] (h, t) (zQi zDr h0 t R) := by
  refine zC_of mt_12015 nn_12015 (Nat.le_of_ble_eq_true rfl) ?_
  refine zW_lv (lv' := [(0, .int v0), (1, .int v1)]) rfl ?_
  unfold f_X12_has at hf
  refine z_iload_n dX12_has_0 rfl ?_
  refine z_iload_n dX12_has_1 rfl ?_
  refine z_ishr dX12_has_2 ?_
  refine z_iconst (v := 1) dX12_has_3 (by decide) ?_
  refine z_iand dX12_has_4 ?_
  refine z_iconst (v := 1) dX12_has_5 (by decide) ?_
  by_cases c1 : ¬ ((v0 >>> (v1 &&& 31)) &&& 1) = 1
  · have hf := zif_t hf c1
    refine z_icmp_ne_t (tgt := 13) dX12_has_6 (by decide) c1 ?_
    refine z_iconst (v := 0) dX12_has_13 (by decide) ?_
    have e_ := Option.some.inj hf
    subst e_
    exact z_zreturn dX12_has_14 rfl (by decide) ⟨h, rfl, rfl, hE⟩
  · have hf := zif_f hf c1
    refine z_icmp_ne_f (tgt := 13) dX12_has_6 (by decide) c1 ?_
    refine z_iconst (v := 1) dX12_has_9 (by decide) ?_
    refine z_goto (tgt := 14) dX12_has_10 (by decide) ?_
    have e_ := Option.some.inj hf
    subst e_
    exact z_zreturn dX12_has_14 rfl (by decide) ⟨h, rfl, rfl, hE⟩
def f_X12_leastOf (v0 : Int32) (v1 : Int32) (S : zS) : Option (Int32 × zS) :=
zl (fun (u3 : Unit) =>
if ¬ v0 = 104 then
some (0, S)
else
if ¬ v1 = 1 then
some (0, S)
else
some (1, S)) fun J2 =>
if ¬ v0 = 106 then
J2 ()
else
if 3 < v1 then
some (1, S)
else
J2 ()
theorem w_X12_leastOf {L : Nat} {xs : Nat → Int32} {fm : Bool} {h0 : Nat → va_E} {t : Nat × Nat × Nat} (hn1 : 64 ≤ t.1) (hn2 : t.1 ≤ 1000000) (d : Nat) {h : Nat → va_E} {S : zS} (hE : zE zDr h0 S (h, t)) {v0 : Int32} {v1 : Int32} {R : Int32 × zS} (hf : f_X12_leastOf v0 v1 S = some R) : zC (ia_P0 L xs fm) (d + 1) 12016 [.int v0, .int v1] (h, t) (zQi zDr h0 t R) := by
  refine zC_of mt_12016 nn_12016 (Nat.le_of_ble_eq_true rfl) ?_
  refine zW_lv (lv' := [(0, .int v0), (1, .int v1)]) rfl ?_
  unfold f_X12_leastOf at hf
  refine z_iload_n dX12_leastOf_0 rfl ?_
  refine z_bipush (v := 106) dX12_leastOf_1 (by decide) ?_
  obtain ⟨J2, eJ2, hf⟩ := zl_some hf
  have hJ2 : ∀ (u3 : Unit) (h : Nat → va_E), zE zDr h0 S (h, t) → J2 u3 = some R → zW (ia_P0 L xs fm) ia_nx (d + 0) 12 false cX12_leastOf 2 (some .int) 11 [(0, .int v0), (1, .int v1)] [] (h, t) (zQi zDr h0 t R) := by
    intro u3 h hE hf
    rw [eJ2] at hf
    refine z_iload_n dX12_leastOf_11 rfl ?_
    refine z_bipush (v := 104) dX12_leastOf_12 (by decide) ?_
    by_cases c4 : ¬ v0 = 104
    · have hf := zif_t hf c4
      refine z_icmp_ne_t (tgt := 26) dX12_leastOf_14 (by decide) c4 ?_
      refine z_iconst (v := 0) dX12_leastOf_26 (by decide) ?_
      have e_ := Option.some.inj hf
      subst e_
      exact z_ireturn dX12_leastOf_27 rfl ⟨h, rfl, rfl, hE⟩
    · have hf := zif_f hf c4
      refine z_icmp_ne_f (tgt := 26) dX12_leastOf_14 (by decide) c4 ?_
      refine z_iload_n dX12_leastOf_17 rfl ?_
      refine z_iconst (v := 1) dX12_leastOf_18 (by decide) ?_
      by_cases c5 : ¬ v1 = 1
      · have hf := zif_t hf c5
        refine z_icmp_ne_t (tgt := 26) dX12_leastOf_19 (by decide) c5 ?_
        refine z_iconst (v := 0) dX12_leastOf_26 (by decide) ?_
        have e_ := Option.some.inj hf
        subst e_
        exact z_ireturn dX12_leastOf_27 rfl ⟨h, rfl, rfl, hE⟩
      · have hf := zif_f hf c5
        refine z_icmp_ne_f (tgt := 26) dX12_leastOf_19 (by decide) c5 ?_
        refine z_iconst (v := 1) dX12_leastOf_22 (by decide) ?_
        refine z_goto (tgt := 27) dX12_leastOf_23 (by decide) ?_
        have e_ := Option.some.inj hf
        subst e_
        exact z_ireturn dX12_leastOf_27 rfl ⟨h, rfl, rfl, hE⟩
  by_cases c1 : ¬ v0 = 106
  · have hf := zif_t hf c1
    refine z_icmp_ne_t (tgt := 11) dX12_leastOf_3 (by decide) c1 ?_
    exact zW.sub (hJ2 () _ hE hf) [0, 1] rfl rfl rfl rfl
  · have hf := zif_f hf c1
    refine z_icmp_ne_f (tgt := 11) dX12_leastOf_3 (by decide) c1 ?_
    refine z_iload_n dX12_leastOf_6 rfl ?_
    refine z_iconst (v := 3) dX12_leastOf_7 (by decide) ?_
    by_cases c6 : 3 < v1
    · have hf := zif_t hf c6
      refine z_icmp_gt_t (tgt := 22) dX12_leastOf_8 (by decide) c6 ?_
      refine z_iconst (v := 1) dX12_leastOf_22 (by decide) ?_
      refine z_goto (tgt := 27) dX12_leastOf_23 (by decide) ?_
      have e_ := Option.some.inj hf
      subst e_
      exact z_ireturn dX12_leastOf_27 rfl ⟨h, rfl, rfl, hE⟩
    · have hf := zif_f hf c6
      refine z_icmp_gt_f (tgt := 22) dX12_leastOf_8 (by decide) c6 ?_
      exact zW.sub (hJ2 () _ hE hf) [0, 1] rfl rfl rfl rfl
def f_X12_mostOf (v0 : Int32) (v1 : Int32) (S : zS) : Option (Int32 × zS) :=
if ¬ v0 = 106 then
if ¬ v0 = 104 then
some (99, S)
else
if v1 ≤ 0 then
some (99, S)
else
some (9, S)
else
zl (fun (u6 : Unit) =>
some (99, S)) fun J5 =>
if v1 < 2 then
J5 ()
else
if ¬ v1 = 5 then
if ¬ v1 = 3 then
some (9, S)
else
some (1, S)
else
J5 ()
theorem w_X12_mostOf {L : Nat} {xs : Nat → Int32} {fm : Bool} {h0 : Nat → va_E} {t : Nat × Nat × Nat} (hn1 : 64 ≤ t.1) (hn2 : t.1 ≤ 1000000) (d : Nat) {h : Nat → va_E} {S : zS} (hE : zE zDr h0 S (h, t)) {v0 : Int32} {v1 : Int32} {R : Int32 × zS} (hf : f_X12_mostOf v0 v1 S = some R) : zC (ia_P0 L xs fm) (d + 1) 12017 [.int v0, .int v1] (h, t) (zQi zDr h0 t R) := by
  refine zC_of mt_12017 nn_12017 (Nat.le_of_ble_eq_true rfl) ?_
  refine zW_lv (lv' := [(0, .int v0), (1, .int v1)]) rfl ?_
  unfold f_X12_mostOf at hf
  refine z_iload_n dX12_mostOf_0 rfl ?_
  refine z_bipush (v := 106) dX12_mostOf_1 (by decide) ?_
  by_cases c1 : ¬ v0 = 106
  · have hf := zif_t hf c1
    refine z_icmp_ne_t (tgt := 33) dX12_mostOf_3 (by decide) c1 ?_
    refine z_iload_n dX12_mostOf_33 rfl ?_
    refine z_bipush (v := 104) dX12_mostOf_34 (by decide) ?_
    by_cases c2 : ¬ v0 = 104
    · have hf := zif_t hf c2
      refine z_icmp_ne_t (tgt := 48) dX12_mostOf_36 (by decide) c2 ?_
      refine z_bipush (v := 99) dX12_mostOf_48 (by decide) ?_
      have e_ := Option.some.inj hf
      subst e_
      exact z_ireturn dX12_mostOf_50 rfl ⟨h, rfl, rfl, hE⟩
    · have hf := zif_f hf c2
      refine z_icmp_ne_f (tgt := 48) dX12_mostOf_36 (by decide) c2 ?_
      refine z_iload_n dX12_mostOf_39 rfl ?_
      by_cases c3 : v1 ≤ 0
      · have hf := zif_t hf c3
        refine z_if_le_t (tgt := 48) dX12_mostOf_40 (by decide) c3 ?_
        refine z_bipush (v := 99) dX12_mostOf_48 (by decide) ?_
        have e_ := Option.some.inj hf
        subst e_
        exact z_ireturn dX12_mostOf_50 rfl ⟨h, rfl, rfl, hE⟩
      · have hf := zif_f hf c3
        refine z_if_le_f (tgt := 48) dX12_mostOf_40 (by decide) c3 ?_
        refine z_bipush (v := 9) dX12_mostOf_43 (by decide) ?_
        refine z_goto (tgt := 50) dX12_mostOf_45 (by decide) ?_
        have e_ := Option.some.inj hf
        subst e_
        exact z_ireturn dX12_mostOf_50 rfl ⟨h, rfl, rfl, hE⟩
  · have hf := zif_f hf c1
    refine z_icmp_ne_f (tgt := 33) dX12_mostOf_3 (by decide) c1 ?_
    refine z_iload_n dX12_mostOf_6 rfl ?_
    refine z_iconst (v := 2) dX12_mostOf_7 (by decide) ?_
    obtain ⟨J5, eJ5, hf⟩ := zl_some hf
    have hJ5 : ∀ (u6 : Unit) (h : Nat → va_E), zE zDr h0 S (h, t) → J5 u6 = some R → zW (ia_P0 L xs fm) ia_nx (d + 0) 12 false cX12_mostOf 2 (some .int) 16 [(0, .int v0), (1, .int v1)] [] (h, t) (zQi zDr h0 t R) := by
      intro u6 h hE hf
      rw [eJ5] at hf
      refine z_bipush (v := 99) dX12_mostOf_16 (by decide) ?_
      refine z_goto (tgt := 32) dX12_mostOf_18 (by decide) ?_
      have e_ := Option.some.inj hf
      subst e_
      exact z_ireturn dX12_mostOf_32 rfl ⟨h, rfl, rfl, hE⟩
    by_cases c4 : v1 < 2
    · have hf := zif_t hf c4
      refine z_icmp_lt_t (tgt := 16) dX12_mostOf_8 (by decide) c4 ?_
      exact zW.sub (hJ5 () _ hE hf) [0, 1] rfl rfl rfl rfl
    · have hf := zif_f hf c4
      refine z_icmp_lt_f (tgt := 16) dX12_mostOf_8 (by decide) c4 ?_
      refine z_iload_n dX12_mostOf_11 rfl ?_
      refine z_iconst (v := 5) dX12_mostOf_12 (by decide) ?_
      by_cases c7 : ¬ v1 = 5
      · have hf := zif_t hf c7
        refine z_icmp_ne_t (tgt := 21) dX12_mostOf_13 (by decide) c7 ?_
        refine z_iload_n dX12_mostOf_21 rfl ?_
        refine z_iconst (v := 3) dX12_mostOf_22 (by decide) ?_
        by_cases c8 : ¬ v1 = 3
        · have hf := zif_t hf c8
          refine z_icmp_ne_t (tgt := 30) dX12_mostOf_23 (by decide) c8 ?_
          refine z_bipush (v := 9) dX12_mostOf_30 (by decide) ?_
          have e_ := Option.some.inj hf
          subst e_
          exact z_ireturn dX12_mostOf_32 rfl ⟨h, rfl, rfl, hE⟩
        · have hf := zif_f hf c8
          refine z_icmp_ne_f (tgt := 30) dX12_mostOf_23 (by decide) c8 ?_
          refine z_iconst (v := 1) dX12_mostOf_26 (by decide) ?_
          refine z_goto (tgt := 32) dX12_mostOf_27 (by decide) ?_
          have e_ := Option.some.inj hf
          subst e_
          exact z_ireturn dX12_mostOf_32 rfl ⟨h, rfl, rfl, hE⟩
      · have hf := zif_f hf c7
        refine z_icmp_ne_f (tgt := 21) dX12_mostOf_13 (by decide) c7 ?_
        exact zW.sub (hJ5 () _ hE hf) [0, 1] rfl rfl rfl rfl
def f_X12_isDigit  (S : zS) : Option (Int32 × zS) :=
if (S.1 41 9) ≤ (S.1 41 10) then
some (0, S)
else
zkr (S.2.1 41 5) none fun a2 =>
if a2 = 42 then
if ia_in ((S.1 41 8) + (S.1 41 10)) 200 = true then
if (S.1 42 ((S.1 41 8) + (S.1 41 10)).toNatClampNeg) < 48 then
some (0, S)
else
if ia_in ((S.1 41 8) + (S.1 41 10)) 200 = true then
if 57 < (S.1 42 ((S.1 41 8) + (S.1 41 10)).toNatClampNeg) then
some (0, S)
else
some (1, S)
else none
else none
else if a2 = 43 then
if ia_in ((S.1 41 8) + (S.1 41 10)) 800 = true then
if (S.1 43 ((S.1 41 8) + (S.1 41 10)).toNatClampNeg) < 48 then
some (0, S)
else
if ia_in ((S.1 41 8) + (S.1 41 10)) 800 = true then
if 57 < (S.1 43 ((S.1 41 8) + (S.1 41 10)).toNatClampNeg) then
some (0, S)
else
some (1, S)
else none
else none
else none
theorem w_X12_isDigit {L : Nat} {xs : Nat → Int32} {fm : Bool} {h0 : Nat → va_E} {t : Nat × Nat × Nat} (hn1 : 64 ≤ t.1) (hn2 : t.1 ≤ 1000000) (d : Nat) {h : Nat → va_E} {S : zS} (hE : zE zDr h0 S (h, t)) {R : Int32 × zS} (hf : f_X12_isDigit  S = some R) : zC (ia_P0 L xs fm) (d + 1) 12019 [.ref 41] (h, t) (zQi zDr h0 t R) := by
  refine zC_of mt_12019 nn_12019 (Nat.le_of_ble_eq_true rfl) ?_
  refine zW_lv (lv' := [(0, .ref 41)]) rfl ?_
  unfold f_X12_isDigit at hf
  refine z_aload_n dX12_isDigit_0 rfl ?_
  refine z_getI dX12_isDigit_1 tF_12_116 hE dr_41 rfl rfl ?_
  refine z_aload_n dX12_isDigit_4 rfl ?_
  refine z_getI dX12_isDigit_5 tF_12_119 hE dr_41 rfl rfl ?_
  by_cases c1 : (S.1 41 9) ≤ (S.1 41 10)
  · have hf := zif_t hf c1
    refine z_icmp_ge_t (tgt := 53) dX12_isDigit_8 (by decide) c1 ?_
    refine z_iconst (v := 0) dX12_isDigit_53 (by decide) ?_
    have e_ := Option.some.inj hf
    subst e_
    exact z_zreturn dX12_isDigit_54 rfl (by decide) ⟨h, rfl, rfl, hE⟩
  · have hf := zif_f hf c1
    refine z_icmp_ge_f (tgt := 53) dX12_isDigit_8 (by decide) c1 ?_
    refine z_aload_n dX12_isDigit_11 rfl ?_
    rcases zkr_some hf with ⟨-, hf⟩ | ⟨a2, ea2, hf⟩
    · cases hf
    · by_cases hqa2 : a2 = 42
      · replace hf := zif_t hf hqa2
        subst hqa2
        refine z_getK dX12_isDigit_12 tF_12_23 hE dr_41 rfl rfl ?_
        refine z_topv ea2 ?_
        refine z_aload_n dX12_isDigit_15 rfl ?_
        refine z_getI dX12_isDigit_16 tF_12_122 hE dr_41 rfl rfl ?_
        refine z_aload_n dX12_isDigit_19 rfl ?_
        refine z_getI dX12_isDigit_20 tF_12_116 hE dr_41 rfl rfl ?_
        refine z_iadd dX12_isDigit_23 ?_
        obtain ⟨b3, hf⟩ := zchk hf
        refine z_baload dX12_isDigit_24 hE dr_42 b3 ?_
        refine z_bipush (v := 48) dX12_isDigit_25 (by decide) ?_
        by_cases c4 : (S.1 42 ((S.1 41 8) + (S.1 41 10)).toNatClampNeg) < 48
        · have hf := zif_t hf c4
          refine z_icmp_lt_t (tgt := 53) dX12_isDigit_27 (by decide) c4 ?_
          refine z_iconst (v := 0) dX12_isDigit_53 (by decide) ?_
          have e_ := Option.some.inj hf
          subst e_
          exact z_zreturn dX12_isDigit_54 rfl (by decide) ⟨h, rfl, rfl, hE⟩
        · have hf := zif_f hf c4
          refine z_icmp_lt_f (tgt := 53) dX12_isDigit_27 (by decide) c4 ?_
          refine z_aload_n dX12_isDigit_30 rfl ?_
          refine z_getK dX12_isDigit_31 tF_12_23 hE dr_41 rfl rfl ?_
          refine z_topv ea2 ?_
          refine z_aload_n dX12_isDigit_34 rfl ?_
          refine z_getI dX12_isDigit_35 tF_12_122 hE dr_41 rfl rfl ?_
          refine z_aload_n dX12_isDigit_38 rfl ?_
          refine z_getI dX12_isDigit_39 tF_12_116 hE dr_41 rfl rfl ?_
          refine z_iadd dX12_isDigit_42 ?_
          obtain ⟨b5, hf⟩ := zchk hf
          refine z_baload dX12_isDigit_43 hE dr_42 b5 ?_
          refine z_bipush (v := 57) dX12_isDigit_44 (by decide) ?_
          by_cases c6 : 57 < (S.1 42 ((S.1 41 8) + (S.1 41 10)).toNatClampNeg)
          · have hf := zif_t hf c6
            refine z_icmp_gt_t (tgt := 53) dX12_isDigit_46 (by decide) c6 ?_
            refine z_iconst (v := 0) dX12_isDigit_53 (by decide) ?_
            have e_ := Option.some.inj hf
            subst e_
            exact z_zreturn dX12_isDigit_54 rfl (by decide) ⟨h, rfl, rfl, hE⟩
          · have hf := zif_f hf c6
            refine z_icmp_gt_f (tgt := 53) dX12_isDigit_46 (by decide) c6 ?_
            refine z_iconst (v := 1) dX12_isDigit_49 (by decide) ?_
            refine z_goto (tgt := 54) dX12_isDigit_50 (by decide) ?_
            have e_ := Option.some.inj hf
            subst e_
            exact z_zreturn dX12_isDigit_54 rfl (by decide) ⟨h, rfl, rfl, hE⟩
      · replace hf := zif_f hf hqa2
        have hwa2 := (zchk hf).1
        replace hf := (zchk hf).2
        clear hqa2
        subst hwa2
        refine z_getK dX12_isDigit_12 tF_12_23 hE dr_41 rfl rfl ?_
        refine z_topv ea2 ?_
        refine z_aload_n dX12_isDigit_15 rfl ?_
        refine z_getI dX12_isDigit_16 tF_12_122 hE dr_41 rfl rfl ?_
        refine z_aload_n dX12_isDigit_19 rfl ?_
        refine z_getI dX12_isDigit_20 tF_12_116 hE dr_41 rfl rfl ?_
        refine z_iadd dX12_isDigit_23 ?_
        obtain ⟨b7, hf⟩ := zchk hf
        refine z_baload dX12_isDigit_24 hE dr_43 b7 ?_
        refine z_bipush (v := 48) dX12_isDigit_25 (by decide) ?_
        by_cases c8 : (S.1 43 ((S.1 41 8) + (S.1 41 10)).toNatClampNeg) < 48
        · have hf := zif_t hf c8
          refine z_icmp_lt_t (tgt := 53) dX12_isDigit_27 (by decide) c8 ?_
          refine z_iconst (v := 0) dX12_isDigit_53 (by decide) ?_
          have e_ := Option.some.inj hf
          subst e_
          exact z_zreturn dX12_isDigit_54 rfl (by decide) ⟨h, rfl, rfl, hE⟩
        · have hf := zif_f hf c8
          refine z_icmp_lt_f (tgt := 53) dX12_isDigit_27 (by decide) c8 ?_
          refine z_aload_n dX12_isDigit_30 rfl ?_
          refine z_getK dX12_isDigit_31 tF_12_23 hE dr_41 rfl rfl ?_
          refine z_topv ea2 ?_
          refine z_aload_n dX12_isDigit_34 rfl ?_
          refine z_getI dX12_isDigit_35 tF_12_122 hE dr_41 rfl rfl ?_
          refine z_aload_n dX12_isDigit_38 rfl ?_
          refine z_getI dX12_isDigit_39 tF_12_116 hE dr_41 rfl rfl ?_
          refine z_iadd dX12_isDigit_42 ?_
          obtain ⟨b9, hf⟩ := zchk hf
          refine z_baload dX12_isDigit_43 hE dr_43 b9 ?_
          refine z_bipush (v := 57) dX12_isDigit_44 (by decide) ?_
          by_cases c10 : 57 < (S.1 43 ((S.1 41 8) + (S.1 41 10)).toNatClampNeg)
          · have hf := zif_t hf c10
            refine z_icmp_gt_t (tgt := 53) dX12_isDigit_46 (by decide) c10 ?_
            refine z_iconst (v := 0) dX12_isDigit_53 (by decide) ?_
            have e_ := Option.some.inj hf
            subst e_
            exact z_zreturn dX12_isDigit_54 rfl (by decide) ⟨h, rfl, rfl, hE⟩
          · have hf := zif_f hf c10
            refine z_icmp_gt_f (tgt := 53) dX12_isDigit_46 (by decide) c10 ?_
            refine z_iconst (v := 1) dX12_isDigit_49 (by decide) ?_
            refine z_goto (tgt := 54) dX12_isDigit_50 (by decide) ?_
            have e_ := Option.some.inj hf
            subst e_
            exact z_zreturn dX12_isDigit_54 rfl (by decide) ⟨h, rfl, rfl, hE⟩
def f_X12_here  (S : zS) : Option (Int32 × zS) :=
if (S.1 41 9) ≤ (S.1 41 10) then
some ((-1), S)
else
zkr (S.2.1 41 5) none fun a2 =>
if a2 = 42 then
if ia_in ((S.1 41 8) + (S.1 41 10)) 200 = true then
some ((S.1 42 ((S.1 41 8) + (S.1 41 10)).toNatClampNeg) &&& 255, S)
else none
else if a2 = 43 then
if ia_in ((S.1 41 8) + (S.1 41 10)) 800 = true then
some ((S.1 43 ((S.1 41 8) + (S.1 41 10)).toNatClampNeg) &&& 255, S)
else none
else none
theorem w_X12_here {L : Nat} {xs : Nat → Int32} {fm : Bool} {h0 : Nat → va_E} {t : Nat × Nat × Nat} (hn1 : 64 ≤ t.1) (hn2 : t.1 ≤ 1000000) (d : Nat) {h : Nat → va_E} {S : zS} (hE : zE zDr h0 S (h, t)) {R : Int32 × zS} (hf : f_X12_here  S = some R) : zC (ia_P0 L xs fm) (d + 1) 12020 [.ref 41] (h, t) (zQi zDr h0 t R) := by
  refine zC_of mt_12020 nn_12020 (Nat.le_of_ble_eq_true rfl) ?_
  refine zW_lv (lv' := [(0, .ref 41)]) rfl ?_
  unfold f_X12_here at hf
  refine z_aload_n dX12_here_0 rfl ?_
  refine z_getI dX12_here_1 tF_12_116 hE dr_41 rfl rfl ?_
  refine z_aload_n dX12_here_4 rfl ?_
  refine z_getI dX12_here_5 tF_12_119 hE dr_41 rfl rfl ?_
  by_cases c1 : (S.1 41 9) ≤ (S.1 41 10)
  · have hf := zif_t hf c1
    refine z_icmp_ge_t (tgt := 32) dX12_here_8 (by decide) c1 ?_
    refine z_iconst (v := (-1)) dX12_here_32 (by decide) ?_
    have e_ := Option.some.inj hf
    subst e_
    exact z_ireturn dX12_here_33 rfl ⟨h, rfl, rfl, hE⟩
  · have hf := zif_f hf c1
    refine z_icmp_ge_f (tgt := 32) dX12_here_8 (by decide) c1 ?_
    refine z_aload_n dX12_here_11 rfl ?_
    rcases zkr_some hf with ⟨-, hf⟩ | ⟨a2, ea2, hf⟩
    · cases hf
    · by_cases hqa2 : a2 = 42
      · replace hf := zif_t hf hqa2
        subst hqa2
        refine z_getK dX12_here_12 tF_12_23 hE dr_41 rfl rfl ?_
        refine z_topv ea2 ?_
        refine z_aload_n dX12_here_15 rfl ?_
        refine z_getI dX12_here_16 tF_12_122 hE dr_41 rfl rfl ?_
        refine z_aload_n dX12_here_19 rfl ?_
        refine z_getI dX12_here_20 tF_12_116 hE dr_41 rfl rfl ?_
        refine z_iadd dX12_here_23 ?_
        obtain ⟨b3, hf⟩ := zchk hf
        refine z_baload dX12_here_24 hE dr_42 b3 ?_
        refine z_sipush (v := 255) dX12_here_25 (by decide) ?_
        refine z_iand dX12_here_28 ?_
        refine z_goto (tgt := 33) dX12_here_29 (by decide) ?_
        have e_ := Option.some.inj hf
        subst e_
        exact z_ireturn dX12_here_33 rfl ⟨h, rfl, rfl, hE⟩
      · replace hf := zif_f hf hqa2
        have hwa2 := (zchk hf).1
        replace hf := (zchk hf).2
        clear hqa2
        subst hwa2
        refine z_getK dX12_here_12 tF_12_23 hE dr_41 rfl rfl ?_
        refine z_topv ea2 ?_
        refine z_aload_n dX12_here_15 rfl ?_
        refine z_getI dX12_here_16 tF_12_122 hE dr_41 rfl rfl ?_
        refine z_aload_n dX12_here_19 rfl ?_
        refine z_getI dX12_here_20 tF_12_116 hE dr_41 rfl rfl ?_
        refine z_iadd dX12_here_23 ?_
        obtain ⟨b4, hf⟩ := zchk hf
        refine z_baload dX12_here_24 hE dr_43 b4 ?_
        refine z_sipush (v := 255) dX12_here_25 (by decide) ?_
        refine z_iand dX12_here_28 ?_
        refine z_goto (tgt := 33) dX12_here_29 (by decide) ?_
        have e_ := Option.some.inj hf
        subst e_
        exact z_ireturn dX12_here_33 rfl ⟨h, rfl, rfl, hE⟩
def f_X12_fails  (S : zS) : Option (Int32 × zS) :=
if ¬ (S.1 41 11) = (-1) then
some (0, S)
else
zl (sV S 41 11 (S.1 41 10)) fun S2 =>
some (0, S2)
theorem w_X12_fails {L : Nat} {xs : Nat → Int32} {fm : Bool} {h0 : Nat → va_E} {t : Nat × Nat × Nat} (hn1 : 64 ≤ t.1) (hn2 : t.1 ≤ 1000000) (d : Nat) {h : Nat → va_E} {S : zS} (hE : zE zDr h0 S (h, t)) {R : Int32 × zS} (hf : f_X12_fails  S = some R) : zC (ia_P0 L xs fm) (d + 1) 12012 [.ref 41] (h, t) (zQi zDr h0 t R) := by
  refine zC_of mt_12012 nn_12012 (Nat.le_of_ble_eq_true rfl) ?_
  refine zW_lv (lv' := [(0, .ref 41)]) rfl ?_
  unfold f_X12_fails at hf
  refine z_aload_n dX12_fails_0 rfl ?_
  refine z_getI dX12_fails_1 tF_12_125 hE dr_41 rfl rfl ?_
  refine z_iconst (v := (-1)) dX12_fails_4 (by decide) ?_
  by_cases c1 : ¬ (S.1 41 11) = (-1)
  · have hf := zif_t hf c1
    refine z_icmp_ne_t (tgt := 16) dX12_fails_5 (by decide) c1 ?_
    refine z_iconst (v := 0) dX12_fails_16 (by decide) ?_
    have e_ := Option.some.inj hf
    subst e_
    exact z_zreturn dX12_fails_17 rfl (by decide) ⟨h, rfl, rfl, hE⟩
  · have hf := zif_f hf c1
    refine z_icmp_ne_f (tgt := 16) dX12_fails_5 (by decide) c1 ?_
    refine z_aload_n dX12_fails_8 rfl ?_
    refine z_aload_n dX12_fails_9 rfl ?_
    refine z_getI dX12_fails_10 tF_12_116 hE dr_41 rfl rfl ?_
    obtain ⟨S2, eS2, hf⟩ := zl_some hf
    refine z_putI dX12_fails_13 tF_12_125 hE dr_41 rfl rfl rfl rfl (fun h hE => ?_)
    rw [← eS2] at hE
    refine z_iconst (v := 0) dX12_fails_16 (by decide) ?_
    have e_ := Option.some.inj hf
    subst e_
    exact z_zreturn dX12_fails_17 rfl (by decide) ⟨h, rfl, rfl, hE⟩
def f_X12_readItem_51 (v2 : Int32) (v3 : Int32) (v4 : Int32) (S : zS) : Option (Unit × zS) :=
zl (sV S 41 10 ((S.1 41 10) + 1)) fun S1 =>
zb (f_X12_look S1) fun r3 S2 =>
zb (f_X12_isDigit S2) fun r6 S5 =>
if ¬ r6 = 0 then
zl (r3 - 48) fun (y9 : Int32) =>
zl (sV S5 41 10 ((S5.1 41 10) + 1)) fun S10 =>
zb (f_X12_isDigit S10) fun r12 S11 =>
zl (fun (q17 : Int32) (S16 : zS) =>
zb (f_X12_isDigit S16) fun r19 S18 =>
if r19 = 0 then
zb (f_X12_isIn (q17.toInt64) (v3.toInt64) (v4.toInt64) S18) fun r23 S22 =>
if ¬ r23 = 0 then
if ia_in v2 8 = true then
zl (sV S22 51 (v2.toNatClampNeg) q17) fun S27 =>
some ((), S27)
else none
else
zl (sV S22 41 10 ((S22.1 41 10) - 1)) fun S28 =>
zb (f_X12_fails S28) fun r30 S29 =>
some ((), S29)
else
zb (f_X12_fails S18) fun r33 S32 =>
some ((), S32)) fun J15 =>
if r12 = 0 then
J15 y9 S11
else
zb (f_X12_here S11) fun r36 S35 =>
zl (((10 * y9) + r36) - 48) fun (y38 : Int32) =>
zl (sV S35 41 10 ((S35.1 41 10) + 1)) fun S39 =>
J15 y38 S39
else
zb (f_X12_fails S5) fun r41 S40 =>
some ((), S40)
theorem w_X12_readItem_51 {L : Nat} {xs : Nat → Int32} {fm : Bool} {h0 : Nat → va_E} {t : Nat × Nat × Nat} (hn1 : 64 ≤ t.1) (hn2 : t.1 ≤ 1000000) (d : Nat) {h : Nat → va_E} {S : zS} (hE : zE zDr h0 S (h, t)) {v2 : Int32} {v3 : Int32} {v4 : Int32} {R : Unit × zS} (hf : f_X12_readItem_51 v2 v3 v4 S = some R) : zC (ia_P0 L xs fm) (d + 2) 12018 [.ref 41, .ref 51, .int v2, .int v3, .int v4] (h, t) (zQv zDr h0 t R) := by
  refine zC_of mt_12018 nn_12018 (Nat.le_of_ble_eq_true rfl) ?_
  refine zW_lv (lv' := [(0, .ref 41), (1, .ref 51), (2, .int v2), (3, .int v3), (4, .int v4)]) rfl ?_
  unfold f_X12_readItem_51 at hf
  refine z_aload_n dX12_readItem_0 rfl ?_
  refine z_dup dX12_readItem_1 rfl ?_
  refine z_getI dX12_readItem_2 tF_12_116 hE dr_41 rfl rfl ?_
  refine z_iconst (v := 1) dX12_readItem_5 (by decide) ?_
  refine z_iadd dX12_readItem_6 ?_
  obtain ⟨S1, eS1, hf⟩ := zl_some hf
  refine z_putI dX12_readItem_7 tF_12_116 hE dr_41 rfl rfl rfl rfl (fun h hE => ?_)
  rw [← eS1] at hE
  refine z_aload_n dX12_readItem_10 rfl ?_
  obtain ⟨r3, S2, k4, hf⟩ := zb_some hf
  refine z_callVi dX12_readItem_11 tM_12_135 mt_12011 (Nat.le_of_ble_eq_true rfl) rfl rfl (z_recv hE dr_41 rfl) rfl (ia_oks_le hn1 rfl) (Nat.le_of_ble_eq_true rfl) (w_X12_look hn1 hn2 (d + 0) hE k4) (fun h hE => ?_)
  refine z_istore (lv' := [(5, .int r3), (0, .ref 41), (1, .ref 51), (2, .int v2), (3, .int v3), (4, .int v4)]) dX12_readItem_14 (by decide) rfl ?_
  refine z_aload_n dX12_readItem_16 rfl ?_
  obtain ⟨r6, S5, k7, hf⟩ := zb_some hf
  refine z_callVi dX12_readItem_17 tM_12_165 mt_12019 (Nat.le_of_ble_eq_true rfl) rfl rfl (z_recv hE dr_41 rfl) rfl (ia_oks_le hn1 rfl) (Nat.le_of_ble_eq_true rfl) (w_X12_isDigit hn1 hn2 (d + 0) hE k7) (fun h hE => ?_)
  by_cases c8 : ¬ r6 = 0
  · have hf := zif_t hf c8
    refine z_if_ne_t (tgt := 29) dX12_readItem_20 (by decide) c8 ?_
    refine z_iload dX12_readItem_29 rfl ?_
    refine z_bipush (v := 48) dX12_readItem_31 (by decide) ?_
    refine z_isub dX12_readItem_33 ?_
    obtain ⟨y9, ey9, hf⟩ := zl_some hf
    refine z_topi ey9 ?_
    refine z_istore (lv' := [(6, .int y9), (5, .int r3), (0, .ref 41), (1, .ref 51), (2, .int v2), (3, .int v3), (4, .int v4)]) dX12_readItem_34 (by decide) rfl ?_
    refine z_aload_n dX12_readItem_36 rfl ?_
    refine z_dup dX12_readItem_37 rfl ?_
    refine z_getI dX12_readItem_38 tF_12_116 hE dr_41 rfl rfl ?_
    refine z_iconst (v := 1) dX12_readItem_41 (by decide) ?_
    refine z_iadd dX12_readItem_42 ?_
    obtain ⟨S10, eS10, hf⟩ := zl_some hf
    refine z_putI dX12_readItem_43 tF_12_116 hE dr_41 rfl rfl rfl rfl (fun h hE => ?_)
    rw [← eS10] at hE
    refine z_aload_n dX12_readItem_46 rfl ?_
    obtain ⟨r12, S11, k13, hf⟩ := zb_some hf
    refine z_callVi dX12_readItem_47 tM_12_165 mt_12019 (Nat.le_of_ble_eq_true rfl) rfl rfl (z_recv hE dr_41 rfl) rfl (ia_oks_le hn1 rfl) (Nat.le_of_ble_eq_true rfl) (w_X12_isDigit hn1 hn2 (d + 0) hE k13) (fun h hE => ?_)
    obtain ⟨J15, eJ15, hf⟩ := zl_some hf
    have hJ15 : ∀ (q17 : Int32) (S16 : zS) (h : Nat → va_E), zE zDr h0 S16 (h, t) → J15 q17 S16 = some R → zW (ia_P0 L xs fm) ia_nx (d + 1) 12 false cX12_readItem 7 (none) 78 [(0, .ref 41), (1, .ref 51), (2, .int v2), (3, .int v3), (4, .int v4), (5, .int r3), (6, .int q17)] [] (h, t) (zQv zDr h0 t R) := by
      intro q17 S16 h hE hf
      rw [eJ15] at hf
      refine z_aload_n dX12_readItem_78 rfl ?_
      obtain ⟨r19, S18, k20, hf⟩ := zb_some hf
      refine z_callVi dX12_readItem_79 tM_12_165 mt_12019 (Nat.le_of_ble_eq_true rfl) rfl rfl (z_recv hE dr_41 rfl) rfl (ia_oks_le hn1 rfl) (Nat.le_of_ble_eq_true rfl) (w_X12_isDigit hn1 hn2 (d + 0) hE k20) (fun h hE => ?_)
      by_cases c21 : r19 = 0
      · have hf := zif_t hf c21
        refine z_if_eq_t (tgt := 91) dX12_readItem_82 (by decide) c21 ?_
        refine z_iload dX12_readItem_91 rfl ?_
        refine z_i2l dX12_readItem_93 ?_
        refine z_iload_n dX12_readItem_94 rfl ?_
        refine z_i2l dX12_readItem_95 ?_
        refine z_iload dX12_readItem_96 rfl ?_
        refine z_i2l dX12_readItem_98 ?_
        obtain ⟨r23, S22, k24, hf⟩ := zb_some hf
        refine z_callSi dX12_readItem_99 tM_12_214 (by decide) mt_12007 (Nat.le_of_ble_eq_true rfl) rfl rfl (ia_oks_le hn1 rfl) (Nat.le_of_ble_eq_true rfl) (w_X12_isIn hn1 hn2 (d + 0) hE k24) (fun h hE => ?_)
        by_cases c25 : ¬ r23 = 0
        · have hf := zif_t hf c25
          refine z_if_ne_t (tgt := 121) dX12_readItem_102 (by decide) c25 ?_
          refine z_aload_n dX12_readItem_121 rfl ?_
          refine z_iload_n dX12_readItem_122 rfl ?_
          refine z_iload dX12_readItem_123 rfl ?_
          obtain ⟨b26, hf⟩ := zchk hf
          obtain ⟨S27, eS27, hf⟩ := zl_some hf
          refine z_iastoreL (i := v2.toNatClampNeg) dX12_readItem_125 hE dr_51 b26 rfl (fun h hE => ?_)
          rw [← eS27] at hE
          have e_ := Option.some.inj hf
          subst e_
          exact z_vreturn dX12_readItem_126 rfl ⟨h, rfl, rfl, hE⟩
        · have hf := zif_f hf c25
          refine z_if_ne_f (tgt := 121) dX12_readItem_102 (by decide) c25 ?_
          refine z_aload_n dX12_readItem_105 rfl ?_
          refine z_dup dX12_readItem_106 rfl ?_
          refine z_getI dX12_readItem_107 tF_12_116 hE dr_41 rfl rfl ?_
          refine z_iconst (v := 1) dX12_readItem_110 (by decide) ?_
          refine z_isub dX12_readItem_111 ?_
          obtain ⟨S28, eS28, hf⟩ := zl_some hf
          refine z_putI dX12_readItem_112 tF_12_116 hE dr_41 rfl rfl rfl rfl (fun h hE => ?_)
          rw [← eS28] at hE
          refine z_aload_n dX12_readItem_115 rfl ?_
          obtain ⟨r30, S29, k31, hf⟩ := zb_some hf
          refine z_callVi dX12_readItem_116 tM_12_131 mt_12012 (Nat.le_of_ble_eq_true rfl) rfl rfl (z_recv hE dr_41 rfl) rfl (ia_oks_le hn1 rfl) (Nat.le_of_ble_eq_true rfl) (w_X12_fails hn1 hn2 (d + 0) hE k31) (fun h hE => ?_)
          refine z_pop dX12_readItem_119 rfl ?_
          have e_ := Option.some.inj hf
          subst e_
          exact z_vreturn dX12_readItem_120 rfl ⟨h, rfl, rfl, hE⟩
      · have hf := zif_f hf c21
        refine z_if_eq_f (tgt := 91) dX12_readItem_82 (by decide) c21 ?_
        refine z_aload_n dX12_readItem_85 rfl ?_
        obtain ⟨r33, S32, k34, hf⟩ := zb_some hf
        refine z_callVi dX12_readItem_86 tM_12_131 mt_12012 (Nat.le_of_ble_eq_true rfl) rfl rfl (z_recv hE dr_41 rfl) rfl (ia_oks_le hn1 rfl) (Nat.le_of_ble_eq_true rfl) (w_X12_fails hn1 hn2 (d + 0) hE k34) (fun h hE => ?_)
        refine z_pop dX12_readItem_89 rfl ?_
        have e_ := Option.some.inj hf
        subst e_
        exact z_vreturn dX12_readItem_90 rfl ⟨h, rfl, rfl, hE⟩
    by_cases c14 : r12 = 0
    · have hf := zif_t hf c14
      refine z_if_eq_t (tgt := 78) dX12_readItem_50 (by decide) c14 ?_
      exact zW.sub (hJ15 y9 S11 _ hE hf) [2, 3, 4, 5, 6, 1, 0] rfl rfl rfl rfl
    · have hf := zif_f hf c14
      refine z_if_eq_f (tgt := 78) dX12_readItem_50 (by decide) c14 ?_
      refine z_bipush (v := 10) dX12_readItem_53 (by decide) ?_
      refine z_iload dX12_readItem_55 rfl ?_
      refine z_imul dX12_readItem_57 ?_
      refine z_aload_n dX12_readItem_58 rfl ?_
      obtain ⟨r36, S35, k37, hf⟩ := zb_some hf
      refine z_callVi dX12_readItem_59 tM_12_211 mt_12020 (Nat.le_of_ble_eq_true rfl) rfl rfl (z_recv hE dr_41 rfl) rfl (ia_oks_le hn1 rfl) (Nat.le_of_ble_eq_true rfl) (w_X12_here hn1 hn2 (d + 0) hE k37) (fun h hE => ?_)
      refine z_iadd dX12_readItem_62 ?_
      refine z_bipush (v := 48) dX12_readItem_63 (by decide) ?_
      refine z_isub dX12_readItem_65 ?_
      obtain ⟨y38, ey38, hf⟩ := zl_some hf
      refine z_topi ey38 ?_
      refine z_istore (lv' := [(6, .int y38), (5, .int r3), (0, .ref 41), (1, .ref 51), (2, .int v2), (3, .int v3), (4, .int v4)]) dX12_readItem_66 (by decide) rfl ?_
      refine z_aload_n dX12_readItem_68 rfl ?_
      refine z_dup dX12_readItem_69 rfl ?_
      refine z_getI dX12_readItem_70 tF_12_116 hE dr_41 rfl rfl ?_
      refine z_iconst (v := 1) dX12_readItem_73 (by decide) ?_
      refine z_iadd dX12_readItem_74 ?_
      obtain ⟨S39, eS39, hf⟩ := zl_some hf
      refine z_putI dX12_readItem_75 tF_12_116 hE dr_41 rfl rfl rfl rfl (fun h hE => ?_)
      rw [← eS39] at hE
      exact zW.sub (hJ15 y38 S39 _ hE hf) [2, 3, 4, 5, 6, 1, 0] rfl rfl rfl rfl
  · have hf := zif_f hf c8
    refine z_if_ne_f (tgt := 29) dX12_readItem_20 (by decide) c8 ?_
    refine z_aload_n dX12_readItem_23 rfl ?_
    obtain ⟨r41, S40, k42, hf⟩ := zb_some hf
    refine z_callVi dX12_readItem_24 tM_12_131 mt_12012 (Nat.le_of_ble_eq_true rfl) rfl rfl (z_recv hE dr_41 rfl) rfl (ia_oks_le hn1 rfl) (Nat.le_of_ble_eq_true rfl) (w_X12_fails hn1 hn2 (d + 0) hE k42) (fun h hE => ?_)
    refine z_pop dX12_readItem_27 rfl ?_
    have e_ := Option.some.inj hf
    subst e_
    exact z_vreturn dX12_readItem_28 rfl ⟨h, rfl, rfl, hE⟩
def f_X12_placeOf_1000102_L2 (ex : Int32 → zS → Option (Int32 × zS)) (i1 : Int32) : Nat → Int32 → zS → Option (Int32 × zS)
  | 0, _, _ => none
  | k + 1, x2, S =>
    zb (f_J0_length_8abf5_1000102 S) fun r2 S1 =>
    if r2 ≤ x2 then
    ex x2 S1
    else
    zb (f_J0_charAt_5068e_1000102 x2 S1) fun r6 S5 =>
    if ¬ r6 = i1 then
    zl (x2 + 1) fun (y9 : Int32) =>
    f_X12_placeOf_1000102_L2 ex i1 k y9 S5
    else
    some (x2, S5)
def f_X12_placeOf_1000102 (v1 : Int32) (S : zS) : Option (Int32 × zS) :=
f_X12_placeOf_1000102_L2 (fun (q11 : Int32) (S10 : zS) =>
some ((-1), S10)) v1 zN 0 S
theorem w_X12_placeOf_1000102_L2 {L : Nat} {xs : Nat → Int32} {fm : Bool} {h0 : Nat → va_E} {t : Nat × Nat × Nat} (hn1 : 64 ≤ t.1) (hn2 : t.1 ≤ 1000000) (d : Nat) {ex : Int32 → zS → Option (Int32 × zS)} {i1 : Int32} {R : Int32 × zS} (hex : ∀ (x2 : Int32) (S : zS) (h : Nat → va_E), zE zDr h0 S (h, t) → ex x2 S = some R → zW (ia_P0 L xs fm) ia_nx (d + 4) 12 false cX12_placeOf 3 (some .int) 27 [(0, .ref 1000102), (1, .int i1), (2, .int x2)] [] (h, t) (zQi zDr h0 t R)) : ∀ (k : Nat) (x2 : Int32) (S : zS) (h : Nat → va_E), zE zDr h0 S (h, t) → f_X12_placeOf_1000102_L2 ex i1 k x2 S = some R → zW (ia_P0 L xs fm) ia_nx (d + 4) 12 false cX12_placeOf 3 (some .int) 2 [(0, .ref 1000102), (1, .int i1), (2, .int x2)] [] (h, t) (zQi zDr h0 t R) := by
  intro k
  induction k with
  | zero => intro x2 S h hE hf; cases hf
  | succ k ih =>
    intro x2 S h hE hf
    unfold f_X12_placeOf_1000102_L2 at hf
    refine z_iload_n dX12_placeOf_2 rfl ?_
    refine z_aload_n dX12_placeOf_3 rfl ?_
    obtain ⟨r2, S1, k3, hf⟩ := zb_some hf
    refine z_callVi dX12_placeOf_4 tM_12_96 mt_900003 (Nat.le_of_ble_eq_true rfl) rfl rfl (z_recvC (hp := (h, t)) (by decide) hn2 hc_1000102) rfl (ia_oks_le hn1 rfl) (Nat.le_of_ble_eq_true rfl) (w_J0_length_8abf5_1000102 hn1 hn2 (d + 2) hE k3) (fun h hE => ?_)
    by_cases c4 : r2 ≤ x2
    · have hf := zif_t hf c4
      refine z_icmp_ge_t (tgt := 27) dX12_placeOf_7 (by decide) c4 ?_
      exact zW.sub (hex x2 S1 _ hE hf) [0, 1, 2] rfl rfl rfl rfl
    · have hf := zif_f hf c4
      refine z_icmp_ge_f (tgt := 27) dX12_placeOf_7 (by decide) c4 ?_
      refine z_aload_n dX12_placeOf_10 rfl ?_
      refine z_iload_n dX12_placeOf_11 rfl ?_
      obtain ⟨r6, S5, k7, hf⟩ := zb_some hf
      refine z_callVi dX12_placeOf_12 tM_12_102 mt_900006 (Nat.le_of_ble_eq_true rfl) rfl rfl (z_recvC (hp := (h, t)) (by decide) hn2 hc_1000102) rfl (ia_oks_le hn1 rfl) (Nat.le_of_ble_eq_true rfl) (w_J0_charAt_5068e_1000102 hn1 hn2 (d + 0) hE k7) (fun h hE => ?_)
      refine z_iload_n dX12_placeOf_15 rfl ?_
      by_cases c8 : ¬ r6 = i1
      · have hf := zif_t hf c8
        refine z_icmp_ne_t (tgt := 21) dX12_placeOf_16 (by decide) c8 ?_
        obtain ⟨y9, ey9, hf⟩ := zl_some hf
        refine z_iincY (v := 1) (y := y9) (lv' := [(2, .int y9), (0, .ref 1000102), (1, .int i1)]) dX12_placeOf_21 rfl (by decide) (by decide) ey9 rfl ?_
        refine z_goto (tgt := 2) dX12_placeOf_24 (by decide) ?_
        exact zW.sub (ih y9 S5 _ hE hf) [1, 2, 0] rfl rfl rfl rfl
      · have hf := zif_f hf c8
        refine z_icmp_ne_f (tgt := 21) dX12_placeOf_16 (by decide) c8 ?_
        refine z_iload_n dX12_placeOf_19 rfl ?_
        have e_ := Option.some.inj hf
        subst e_
        exact z_ireturn dX12_placeOf_20 rfl ⟨h, rfl, rfl, hE⟩
theorem w_X12_placeOf_1000102 {L : Nat} {xs : Nat → Int32} {fm : Bool} {h0 : Nat → va_E} {t : Nat × Nat × Nat} (hn1 : 64 ≤ t.1) (hn2 : t.1 ≤ 1000000) (d : Nat) {h : Nat → va_E} {S : zS} (hE : zE zDr h0 S (h, t)) {v1 : Int32} {R : Int32 × zS} (hf : f_X12_placeOf_1000102 v1 S = some R) : zC (ia_P0 L xs fm) (d + 5) 12014 [.ref 1000102, .int v1] (h, t) (zQi zDr h0 t R) := by
  refine zC_of mt_12014 nn_12014 (Nat.le_of_ble_eq_true rfl) ?_
  refine zW_lv (lv' := [(0, .ref 1000102), (1, .int v1)]) rfl ?_
  unfold f_X12_placeOf_1000102 at hf
  refine z_iconst (v := 0) dX12_placeOf_0 (by decide) ?_
  refine z_istore_n (lv' := [(2, .int 0), (0, .ref 1000102), (1, .int v1)]) dX12_placeOf_1 (by decide) rfl ?_
  refine zW.sub (w_X12_placeOf_1000102_L2 hn1 hn2 d (fun q11 S10 h hE hf => ?_) zN 0 S h hE hf) [1, 2, 0] rfl rfl rfl rfl
  try dsimp only at hf
  refine z_iconst (v := (-1)) dX12_placeOf_27 (by decide) ?_
  have e_ := Option.some.inj hf
  subst e_
  exact z_ireturn dX12_placeOf_28 rfl ⟨h, rfl, rfl, hE⟩
def f_X12_placeOf_1000101_L2 (ex : Int32 → zS → Option (Int32 × zS)) (i1 : Int32) : Nat → Int32 → zS → Option (Int32 × zS)
  | 0, _, _ => none
  | k + 1, x2, S =>
    zb (f_J0_length_8abf5_1000101 S) fun r2 S1 =>
    if r2 ≤ x2 then
    ex x2 S1
    else
    zb (f_J0_charAt_5068e_1000101 x2 S1) fun r6 S5 =>
    if ¬ r6 = i1 then
    zl (x2 + 1) fun (y9 : Int32) =>
    f_X12_placeOf_1000101_L2 ex i1 k y9 S5
    else
    some (x2, S5)
def f_X12_placeOf_1000101 (v1 : Int32) (S : zS) : Option (Int32 × zS) :=
f_X12_placeOf_1000101_L2 (fun (q11 : Int32) (S10 : zS) =>
some ((-1), S10)) v1 zN 0 S
theorem w_X12_placeOf_1000101_L2 {L : Nat} {xs : Nat → Int32} {fm : Bool} {h0 : Nat → va_E} {t : Nat × Nat × Nat} (hn1 : 64 ≤ t.1) (hn2 : t.1 ≤ 1000000) (d : Nat) {ex : Int32 → zS → Option (Int32 × zS)} {i1 : Int32} {R : Int32 × zS} (hex : ∀ (x2 : Int32) (S : zS) (h : Nat → va_E), zE zDr h0 S (h, t) → ex x2 S = some R → zW (ia_P0 L xs fm) ia_nx (d + 4) 12 false cX12_placeOf 3 (some .int) 27 [(0, .ref 1000101), (1, .int i1), (2, .int x2)] [] (h, t) (zQi zDr h0 t R)) : ∀ (k : Nat) (x2 : Int32) (S : zS) (h : Nat → va_E), zE zDr h0 S (h, t) → f_X12_placeOf_1000101_L2 ex i1 k x2 S = some R → zW (ia_P0 L xs fm) ia_nx (d + 4) 12 false cX12_placeOf 3 (some .int) 2 [(0, .ref 1000101), (1, .int i1), (2, .int x2)] [] (h, t) (zQi zDr h0 t R) := by
  intro k
  induction k with
  | zero => intro x2 S h hE hf; cases hf
  | succ k ih =>
    intro x2 S h hE hf
    unfold f_X12_placeOf_1000101_L2 at hf
    refine z_iload_n dX12_placeOf_2 rfl ?_
    refine z_aload_n dX12_placeOf_3 rfl ?_
    obtain ⟨r2, S1, k3, hf⟩ := zb_some hf
    refine z_callVi dX12_placeOf_4 tM_12_96 mt_900003 (Nat.le_of_ble_eq_true rfl) rfl rfl (z_recvC (hp := (h, t)) (by decide) hn2 hc_1000101) rfl (ia_oks_le hn1 rfl) (Nat.le_of_ble_eq_true rfl) (w_J0_length_8abf5_1000101 hn1 hn2 (d + 2) hE k3) (fun h hE => ?_)
    by_cases c4 : r2 ≤ x2
    · have hf := zif_t hf c4
      refine z_icmp_ge_t (tgt := 27) dX12_placeOf_7 (by decide) c4 ?_
      exact zW.sub (hex x2 S1 _ hE hf) [0, 1, 2] rfl rfl rfl rfl
    · have hf := zif_f hf c4
      refine z_icmp_ge_f (tgt := 27) dX12_placeOf_7 (by decide) c4 ?_
      refine z_aload_n dX12_placeOf_10 rfl ?_
      refine z_iload_n dX12_placeOf_11 rfl ?_
      obtain ⟨r6, S5, k7, hf⟩ := zb_some hf
      refine z_callVi dX12_placeOf_12 tM_12_102 mt_900006 (Nat.le_of_ble_eq_true rfl) rfl rfl (z_recvC (hp := (h, t)) (by decide) hn2 hc_1000101) rfl (ia_oks_le hn1 rfl) (Nat.le_of_ble_eq_true rfl) (w_J0_charAt_5068e_1000101 hn1 hn2 (d + 0) hE k7) (fun h hE => ?_)
      refine z_iload_n dX12_placeOf_15 rfl ?_
      by_cases c8 : ¬ r6 = i1
      · have hf := zif_t hf c8
        refine z_icmp_ne_t (tgt := 21) dX12_placeOf_16 (by decide) c8 ?_
        obtain ⟨y9, ey9, hf⟩ := zl_some hf
        refine z_iincY (v := 1) (y := y9) (lv' := [(2, .int y9), (0, .ref 1000101), (1, .int i1)]) dX12_placeOf_21 rfl (by decide) (by decide) ey9 rfl ?_
        refine z_goto (tgt := 2) dX12_placeOf_24 (by decide) ?_
        exact zW.sub (ih y9 S5 _ hE hf) [1, 2, 0] rfl rfl rfl rfl
      · have hf := zif_f hf c8
        refine z_icmp_ne_f (tgt := 21) dX12_placeOf_16 (by decide) c8 ?_
        refine z_iload_n dX12_placeOf_19 rfl ?_
        have e_ := Option.some.inj hf
        subst e_
        exact z_ireturn dX12_placeOf_20 rfl ⟨h, rfl, rfl, hE⟩
theorem w_X12_placeOf_1000101 {L : Nat} {xs : Nat → Int32} {fm : Bool} {h0 : Nat → va_E} {t : Nat × Nat × Nat} (hn1 : 64 ≤ t.1) (hn2 : t.1 ≤ 1000000) (d : Nat) {h : Nat → va_E} {S : zS} (hE : zE zDr h0 S (h, t)) {v1 : Int32} {R : Int32 × zS} (hf : f_X12_placeOf_1000101 v1 S = some R) : zC (ia_P0 L xs fm) (d + 5) 12014 [.ref 1000101, .int v1] (h, t) (zQi zDr h0 t R) := by
  refine zC_of mt_12014 nn_12014 (Nat.le_of_ble_eq_true rfl) ?_
  refine zW_lv (lv' := [(0, .ref 1000101), (1, .int v1)]) rfl ?_
  unfold f_X12_placeOf_1000101 at hf
  refine z_iconst (v := 0) dX12_placeOf_0 (by decide) ?_
  refine z_istore_n (lv' := [(2, .int 0), (0, .ref 1000101), (1, .int v1)]) dX12_placeOf_1 (by decide) rfl ?_
  refine zW.sub (w_X12_placeOf_1000101_L2 hn1 hn2 d (fun q11 S10 h hE hf => ?_) zN 0 S h hE hf) [1, 2, 0] rfl rfl rfl rfl
  try dsimp only at hf
  refine z_iconst (v := (-1)) dX12_placeOf_27 (by decide) ?_
  have e_ := Option.some.inj hf
  subst e_
  exact z_ireturn dX12_placeOf_28 rfl ⟨h, rfl, rfl, hE⟩
def f_X12_readItem_49 (v2 : Int32) (v3 : Int32) (v4 : Int32) (S : zS) : Option (Unit × zS) :=
zl (sV S 41 10 ((S.1 41 10) + 1)) fun S1 =>
zb (f_X12_look S1) fun r3 S2 =>
zb (f_X12_isDigit S2) fun r6 S5 =>
if ¬ r6 = 0 then
zl (r3 - 48) fun (y9 : Int32) =>
zl (sV S5 41 10 ((S5.1 41 10) + 1)) fun S10 =>
zb (f_X12_isDigit S10) fun r12 S11 =>
zl (fun (q17 : Int32) (S16 : zS) =>
zb (f_X12_isDigit S16) fun r19 S18 =>
if r19 = 0 then
zb (f_X12_isIn (q17.toInt64) (v3.toInt64) (v4.toInt64) S18) fun r23 S22 =>
if ¬ r23 = 0 then
if ia_in v2 30 = true then
zl (sV S22 49 (v2.toNatClampNeg) q17) fun S27 =>
some ((), S27)
else none
else
zl (sV S22 41 10 ((S22.1 41 10) - 1)) fun S28 =>
zb (f_X12_fails S28) fun r30 S29 =>
some ((), S29)
else
zb (f_X12_fails S18) fun r33 S32 =>
some ((), S32)) fun J15 =>
if r12 = 0 then
J15 y9 S11
else
zb (f_X12_here S11) fun r36 S35 =>
zl (((10 * y9) + r36) - 48) fun (y38 : Int32) =>
zl (sV S35 41 10 ((S35.1 41 10) + 1)) fun S39 =>
J15 y38 S39
else
zb (f_X12_fails S5) fun r41 S40 =>
some ((), S40)
theorem w_X12_readItem_49 {L : Nat} {xs : Nat → Int32} {fm : Bool} {h0 : Nat → va_E} {t : Nat × Nat × Nat} (hn1 : 64 ≤ t.1) (hn2 : t.1 ≤ 1000000) (d : Nat) {h : Nat → va_E} {S : zS} (hE : zE zDr h0 S (h, t)) {v2 : Int32} {v3 : Int32} {v4 : Int32} {R : Unit × zS} (hf : f_X12_readItem_49 v2 v3 v4 S = some R) : zC (ia_P0 L xs fm) (d + 2) 12018 [.ref 41, .ref 49, .int v2, .int v3, .int v4] (h, t) (zQv zDr h0 t R) := by
  refine zC_of mt_12018 nn_12018 (Nat.le_of_ble_eq_true rfl) ?_
  refine zW_lv (lv' := [(0, .ref 41), (1, .ref 49), (2, .int v2), (3, .int v3), (4, .int v4)]) rfl ?_
  unfold f_X12_readItem_49 at hf
  refine z_aload_n dX12_readItem_0 rfl ?_
  refine z_dup dX12_readItem_1 rfl ?_
  refine z_getI dX12_readItem_2 tF_12_116 hE dr_41 rfl rfl ?_
  refine z_iconst (v := 1) dX12_readItem_5 (by decide) ?_
  refine z_iadd dX12_readItem_6 ?_
  obtain ⟨S1, eS1, hf⟩ := zl_some hf
  refine z_putI dX12_readItem_7 tF_12_116 hE dr_41 rfl rfl rfl rfl (fun h hE => ?_)
  rw [← eS1] at hE
  refine z_aload_n dX12_readItem_10 rfl ?_
  obtain ⟨r3, S2, k4, hf⟩ := zb_some hf
  refine z_callVi dX12_readItem_11 tM_12_135 mt_12011 (Nat.le_of_ble_eq_true rfl) rfl rfl (z_recv hE dr_41 rfl) rfl (ia_oks_le hn1 rfl) (Nat.le_of_ble_eq_true rfl) (w_X12_look hn1 hn2 (d + 0) hE k4) (fun h hE => ?_)
  refine z_istore (lv' := [(5, .int r3), (0, .ref 41), (1, .ref 49), (2, .int v2), (3, .int v3), (4, .int v4)]) dX12_readItem_14 (by decide) rfl ?_
  refine z_aload_n dX12_readItem_16 rfl ?_
  obtain ⟨r6, S5, k7, hf⟩ := zb_some hf
  refine z_callVi dX12_readItem_17 tM_12_165 mt_12019 (Nat.le_of_ble_eq_true rfl) rfl rfl (z_recv hE dr_41 rfl) rfl (ia_oks_le hn1 rfl) (Nat.le_of_ble_eq_true rfl) (w_X12_isDigit hn1 hn2 (d + 0) hE k7) (fun h hE => ?_)
  by_cases c8 : ¬ r6 = 0
  · have hf := zif_t hf c8
    refine z_if_ne_t (tgt := 29) dX12_readItem_20 (by decide) c8 ?_
    refine z_iload dX12_readItem_29 rfl ?_
    refine z_bipush (v := 48) dX12_readItem_31 (by decide) ?_
    refine z_isub dX12_readItem_33 ?_
    obtain ⟨y9, ey9, hf⟩ := zl_some hf
    refine z_topi ey9 ?_
    refine z_istore (lv' := [(6, .int y9), (5, .int r3), (0, .ref 41), (1, .ref 49), (2, .int v2), (3, .int v3), (4, .int v4)]) dX12_readItem_34 (by decide) rfl ?_
    refine z_aload_n dX12_readItem_36 rfl ?_
    refine z_dup dX12_readItem_37 rfl ?_
    refine z_getI dX12_readItem_38 tF_12_116 hE dr_41 rfl rfl ?_
    refine z_iconst (v := 1) dX12_readItem_41 (by decide) ?_
    refine z_iadd dX12_readItem_42 ?_
    obtain ⟨S10, eS10, hf⟩ := zl_some hf
    refine z_putI dX12_readItem_43 tF_12_116 hE dr_41 rfl rfl rfl rfl (fun h hE => ?_)
    rw [← eS10] at hE
    refine z_aload_n dX12_readItem_46 rfl ?_
    obtain ⟨r12, S11, k13, hf⟩ := zb_some hf
    refine z_callVi dX12_readItem_47 tM_12_165 mt_12019 (Nat.le_of_ble_eq_true rfl) rfl rfl (z_recv hE dr_41 rfl) rfl (ia_oks_le hn1 rfl) (Nat.le_of_ble_eq_true rfl) (w_X12_isDigit hn1 hn2 (d + 0) hE k13) (fun h hE => ?_)
    obtain ⟨J15, eJ15, hf⟩ := zl_some hf
    have hJ15 : ∀ (q17 : Int32) (S16 : zS) (h : Nat → va_E), zE zDr h0 S16 (h, t) → J15 q17 S16 = some R → zW (ia_P0 L xs fm) ia_nx (d + 1) 12 false cX12_readItem 7 (none) 78 [(0, .ref 41), (1, .ref 49), (2, .int v2), (3, .int v3), (4, .int v4), (5, .int r3), (6, .int q17)] [] (h, t) (zQv zDr h0 t R) := by
      intro q17 S16 h hE hf
      rw [eJ15] at hf
      refine z_aload_n dX12_readItem_78 rfl ?_
      obtain ⟨r19, S18, k20, hf⟩ := zb_some hf
      refine z_callVi dX12_readItem_79 tM_12_165 mt_12019 (Nat.le_of_ble_eq_true rfl) rfl rfl (z_recv hE dr_41 rfl) rfl (ia_oks_le hn1 rfl) (Nat.le_of_ble_eq_true rfl) (w_X12_isDigit hn1 hn2 (d + 0) hE k20) (fun h hE => ?_)
      by_cases c21 : r19 = 0
      · have hf := zif_t hf c21
        refine z_if_eq_t (tgt := 91) dX12_readItem_82 (by decide) c21 ?_
        refine z_iload dX12_readItem_91 rfl ?_
        refine z_i2l dX12_readItem_93 ?_
        refine z_iload_n dX12_readItem_94 rfl ?_
        refine z_i2l dX12_readItem_95 ?_
        refine z_iload dX12_readItem_96 rfl ?_
        refine z_i2l dX12_readItem_98 ?_
        obtain ⟨r23, S22, k24, hf⟩ := zb_some hf
        refine z_callSi dX12_readItem_99 tM_12_214 (by decide) mt_12007 (Nat.le_of_ble_eq_true rfl) rfl rfl (ia_oks_le hn1 rfl) (Nat.le_of_ble_eq_true rfl) (w_X12_isIn hn1 hn2 (d + 0) hE k24) (fun h hE => ?_)
        by_cases c25 : ¬ r23 = 0
        · have hf := zif_t hf c25
          refine z_if_ne_t (tgt := 121) dX12_readItem_102 (by decide) c25 ?_
          refine z_aload_n dX12_readItem_121 rfl ?_
          refine z_iload_n dX12_readItem_122 rfl ?_
          refine z_iload dX12_readItem_123 rfl ?_
          obtain ⟨b26, hf⟩ := zchk hf
          obtain ⟨S27, eS27, hf⟩ := zl_some hf
          refine z_iastoreL (i := v2.toNatClampNeg) dX12_readItem_125 hE dr_49 b26 rfl (fun h hE => ?_)
          rw [← eS27] at hE
          have e_ := Option.some.inj hf
          subst e_
          exact z_vreturn dX12_readItem_126 rfl ⟨h, rfl, rfl, hE⟩
        · have hf := zif_f hf c25
          refine z_if_ne_f (tgt := 121) dX12_readItem_102 (by decide) c25 ?_
          refine z_aload_n dX12_readItem_105 rfl ?_
          refine z_dup dX12_readItem_106 rfl ?_
          refine z_getI dX12_readItem_107 tF_12_116 hE dr_41 rfl rfl ?_
          refine z_iconst (v := 1) dX12_readItem_110 (by decide) ?_
          refine z_isub dX12_readItem_111 ?_
          obtain ⟨S28, eS28, hf⟩ := zl_some hf
          refine z_putI dX12_readItem_112 tF_12_116 hE dr_41 rfl rfl rfl rfl (fun h hE => ?_)
          rw [← eS28] at hE
          refine z_aload_n dX12_readItem_115 rfl ?_
          obtain ⟨r30, S29, k31, hf⟩ := zb_some hf
          refine z_callVi dX12_readItem_116 tM_12_131 mt_12012 (Nat.le_of_ble_eq_true rfl) rfl rfl (z_recv hE dr_41 rfl) rfl (ia_oks_le hn1 rfl) (Nat.le_of_ble_eq_true rfl) (w_X12_fails hn1 hn2 (d + 0) hE k31) (fun h hE => ?_)
          refine z_pop dX12_readItem_119 rfl ?_
          have e_ := Option.some.inj hf
          subst e_
          exact z_vreturn dX12_readItem_120 rfl ⟨h, rfl, rfl, hE⟩
      · have hf := zif_f hf c21
        refine z_if_eq_f (tgt := 91) dX12_readItem_82 (by decide) c21 ?_
        refine z_aload_n dX12_readItem_85 rfl ?_
        obtain ⟨r33, S32, k34, hf⟩ := zb_some hf
        refine z_callVi dX12_readItem_86 tM_12_131 mt_12012 (Nat.le_of_ble_eq_true rfl) rfl rfl (z_recv hE dr_41 rfl) rfl (ia_oks_le hn1 rfl) (Nat.le_of_ble_eq_true rfl) (w_X12_fails hn1 hn2 (d + 0) hE k34) (fun h hE => ?_)
        refine z_pop dX12_readItem_89 rfl ?_
        have e_ := Option.some.inj hf
        subst e_
        exact z_vreturn dX12_readItem_90 rfl ⟨h, rfl, rfl, hE⟩
    by_cases c14 : r12 = 0
    · have hf := zif_t hf c14
      refine z_if_eq_t (tgt := 78) dX12_readItem_50 (by decide) c14 ?_
      exact zW.sub (hJ15 y9 S11 _ hE hf) [2, 3, 4, 5, 6, 1, 0] rfl rfl rfl rfl
    · have hf := zif_f hf c14
      refine z_if_eq_f (tgt := 78) dX12_readItem_50 (by decide) c14 ?_
      refine z_bipush (v := 10) dX12_readItem_53 (by decide) ?_
      refine z_iload dX12_readItem_55 rfl ?_
      refine z_imul dX12_readItem_57 ?_
      refine z_aload_n dX12_readItem_58 rfl ?_
      obtain ⟨r36, S35, k37, hf⟩ := zb_some hf
      refine z_callVi dX12_readItem_59 tM_12_211 mt_12020 (Nat.le_of_ble_eq_true rfl) rfl rfl (z_recv hE dr_41 rfl) rfl (ia_oks_le hn1 rfl) (Nat.le_of_ble_eq_true rfl) (w_X12_here hn1 hn2 (d + 0) hE k37) (fun h hE => ?_)
      refine z_iadd dX12_readItem_62 ?_
      refine z_bipush (v := 48) dX12_readItem_63 (by decide) ?_
      refine z_isub dX12_readItem_65 ?_
      obtain ⟨y38, ey38, hf⟩ := zl_some hf
      refine z_topi ey38 ?_
      refine z_istore (lv' := [(6, .int y38), (5, .int r3), (0, .ref 41), (1, .ref 49), (2, .int v2), (3, .int v3), (4, .int v4)]) dX12_readItem_66 (by decide) rfl ?_
      refine z_aload_n dX12_readItem_68 rfl ?_
      refine z_dup dX12_readItem_69 rfl ?_
      refine z_getI dX12_readItem_70 tF_12_116 hE dr_41 rfl rfl ?_
      refine z_iconst (v := 1) dX12_readItem_73 (by decide) ?_
      refine z_iadd dX12_readItem_74 ?_
      obtain ⟨S39, eS39, hf⟩ := zl_some hf
      refine z_putI dX12_readItem_75 tF_12_116 hE dr_41 rfl rfl rfl rfl (fun h hE => ?_)
      rw [← eS39] at hE
      exact zW.sub (hJ15 y38 S39 _ hE hf) [2, 3, 4, 5, 6, 1, 0] rfl rfl rfl rfl
  · have hf := zif_f hf c8
    refine z_if_ne_f (tgt := 29) dX12_readItem_20 (by decide) c8 ?_
    refine z_aload_n dX12_readItem_23 rfl ?_
    obtain ⟨r41, S40, k42, hf⟩ := zb_some hf
    refine z_callVi dX12_readItem_24 tM_12_131 mt_12012 (Nat.le_of_ble_eq_true rfl) rfl rfl (z_recv hE dr_41 rfl) rfl (ia_oks_le hn1 rfl) (Nat.le_of_ble_eq_true rfl) (w_X12_fails hn1 hn2 (d + 0) hE k42) (fun h hE => ?_)
    refine z_pop dX12_readItem_27 rfl ?_
    have e_ := Option.some.inj hf
    subst e_
    exact z_vreturn dX12_readItem_28 rfl ⟨h, rfl, rfl, hE⟩
def f_X12_readItem_47 (v2 : Int32) (v3 : Int32) (v4 : Int32) (S : zS) : Option (Unit × zS) :=
zl (sV S 41 10 ((S.1 41 10) + 1)) fun S1 =>
zb (f_X12_look S1) fun r3 S2 =>
zb (f_X12_isDigit S2) fun r6 S5 =>
if ¬ r6 = 0 then
zl (r3 - 48) fun (y9 : Int32) =>
zl (sV S5 41 10 ((S5.1 41 10) + 1)) fun S10 =>
zb (f_X12_isDigit S10) fun r12 S11 =>
zl (fun (q17 : Int32) (S16 : zS) =>
zb (f_X12_isDigit S16) fun r19 S18 =>
if r19 = 0 then
zb (f_X12_isIn (q17.toInt64) (v3.toInt64) (v4.toInt64) S18) fun r23 S22 =>
if ¬ r23 = 0 then
if ia_in v2 24 = true then
zl (sV S22 47 (v2.toNatClampNeg) q17) fun S27 =>
some ((), S27)
else none
else
zl (sV S22 41 10 ((S22.1 41 10) - 1)) fun S28 =>
zb (f_X12_fails S28) fun r30 S29 =>
some ((), S29)
else
zb (f_X12_fails S18) fun r33 S32 =>
some ((), S32)) fun J15 =>
if r12 = 0 then
J15 y9 S11
else
zb (f_X12_here S11) fun r36 S35 =>
zl (((10 * y9) + r36) - 48) fun (y38 : Int32) =>
zl (sV S35 41 10 ((S35.1 41 10) + 1)) fun S39 =>
J15 y38 S39
else
zb (f_X12_fails S5) fun r41 S40 =>
some ((), S40)
theorem w_X12_readItem_47 {L : Nat} {xs : Nat → Int32} {fm : Bool} {h0 : Nat → va_E} {t : Nat × Nat × Nat} (hn1 : 64 ≤ t.1) (hn2 : t.1 ≤ 1000000) (d : Nat) {h : Nat → va_E} {S : zS} (hE : zE zDr h0 S (h, t)) {v2 : Int32} {v3 : Int32} {v4 : Int32} {R : Unit × zS} (hf : f_X12_readItem_47 v2 v3 v4 S = some R) : zC (ia_P0 L xs fm) (d + 2) 12018 [.ref 41, .ref 47, .int v2, .int v3, .int v4] (h, t) (zQv zDr h0 t R) := by
  refine zC_of mt_12018 nn_12018 (Nat.le_of_ble_eq_true rfl) ?_
  refine zW_lv (lv' := [(0, .ref 41), (1, .ref 47), (2, .int v2), (3, .int v3), (4, .int v4)]) rfl ?_
  unfold f_X12_readItem_47 at hf
  refine z_aload_n dX12_readItem_0 rfl ?_
  refine z_dup dX12_readItem_1 rfl ?_
  refine z_getI dX12_readItem_2 tF_12_116 hE dr_41 rfl rfl ?_
  refine z_iconst (v := 1) dX12_readItem_5 (by decide) ?_
  refine z_iadd dX12_readItem_6 ?_
  obtain ⟨S1, eS1, hf⟩ := zl_some hf
  refine z_putI dX12_readItem_7 tF_12_116 hE dr_41 rfl rfl rfl rfl (fun h hE => ?_)
  rw [← eS1] at hE
  refine z_aload_n dX12_readItem_10 rfl ?_
  obtain ⟨r3, S2, k4, hf⟩ := zb_some hf
  refine z_callVi dX12_readItem_11 tM_12_135 mt_12011 (Nat.le_of_ble_eq_true rfl) rfl rfl (z_recv hE dr_41 rfl) rfl (ia_oks_le hn1 rfl) (Nat.le_of_ble_eq_true rfl) (w_X12_look hn1 hn2 (d + 0) hE k4) (fun h hE => ?_)
  refine z_istore (lv' := [(5, .int r3), (0, .ref 41), (1, .ref 47), (2, .int v2), (3, .int v3), (4, .int v4)]) dX12_readItem_14 (by decide) rfl ?_
  refine z_aload_n dX12_readItem_16 rfl ?_
  obtain ⟨r6, S5, k7, hf⟩ := zb_some hf
  refine z_callVi dX12_readItem_17 tM_12_165 mt_12019 (Nat.le_of_ble_eq_true rfl) rfl rfl (z_recv hE dr_41 rfl) rfl (ia_oks_le hn1 rfl) (Nat.le_of_ble_eq_true rfl) (w_X12_isDigit hn1 hn2 (d + 0) hE k7) (fun h hE => ?_)
  by_cases c8 : ¬ r6 = 0
  · have hf := zif_t hf c8
    refine z_if_ne_t (tgt := 29) dX12_readItem_20 (by decide) c8 ?_
    refine z_iload dX12_readItem_29 rfl ?_
    refine z_bipush (v := 48) dX12_readItem_31 (by decide) ?_
    refine z_isub dX12_readItem_33 ?_
    obtain ⟨y9, ey9, hf⟩ := zl_some hf
    refine z_topi ey9 ?_
    refine z_istore (lv' := [(6, .int y9), (5, .int r3), (0, .ref 41), (1, .ref 47), (2, .int v2), (3, .int v3), (4, .int v4)]) dX12_readItem_34 (by decide) rfl ?_
    refine z_aload_n dX12_readItem_36 rfl ?_
    refine z_dup dX12_readItem_37 rfl ?_
    refine z_getI dX12_readItem_38 tF_12_116 hE dr_41 rfl rfl ?_
    refine z_iconst (v := 1) dX12_readItem_41 (by decide) ?_
    refine z_iadd dX12_readItem_42 ?_
    obtain ⟨S10, eS10, hf⟩ := zl_some hf
    refine z_putI dX12_readItem_43 tF_12_116 hE dr_41 rfl rfl rfl rfl (fun h hE => ?_)
    rw [← eS10] at hE
    refine z_aload_n dX12_readItem_46 rfl ?_
    obtain ⟨r12, S11, k13, hf⟩ := zb_some hf
    refine z_callVi dX12_readItem_47 tM_12_165 mt_12019 (Nat.le_of_ble_eq_true rfl) rfl rfl (z_recv hE dr_41 rfl) rfl (ia_oks_le hn1 rfl) (Nat.le_of_ble_eq_true rfl) (w_X12_isDigit hn1 hn2 (d + 0) hE k13) (fun h hE => ?_)
    obtain ⟨J15, eJ15, hf⟩ := zl_some hf
    have hJ15 : ∀ (q17 : Int32) (S16 : zS) (h : Nat → va_E), zE zDr h0 S16 (h, t) → J15 q17 S16 = some R → zW (ia_P0 L xs fm) ia_nx (d + 1) 12 false cX12_readItem 7 (none) 78 [(0, .ref 41), (1, .ref 47), (2, .int v2), (3, .int v3), (4, .int v4), (5, .int r3), (6, .int q17)] [] (h, t) (zQv zDr h0 t R) := by
      intro q17 S16 h hE hf
      rw [eJ15] at hf
      refine z_aload_n dX12_readItem_78 rfl ?_
      obtain ⟨r19, S18, k20, hf⟩ := zb_some hf
      refine z_callVi dX12_readItem_79 tM_12_165 mt_12019 (Nat.le_of_ble_eq_true rfl) rfl rfl (z_recv hE dr_41 rfl) rfl (ia_oks_le hn1 rfl) (Nat.le_of_ble_eq_true rfl) (w_X12_isDigit hn1 hn2 (d + 0) hE k20) (fun h hE => ?_)
      by_cases c21 : r19 = 0
      · have hf := zif_t hf c21
        refine z_if_eq_t (tgt := 91) dX12_readItem_82 (by decide) c21 ?_
        refine z_iload dX12_readItem_91 rfl ?_
        refine z_i2l dX12_readItem_93 ?_
        refine z_iload_n dX12_readItem_94 rfl ?_
        refine z_i2l dX12_readItem_95 ?_
        refine z_iload dX12_readItem_96 rfl ?_
        refine z_i2l dX12_readItem_98 ?_
        obtain ⟨r23, S22, k24, hf⟩ := zb_some hf
        refine z_callSi dX12_readItem_99 tM_12_214 (by decide) mt_12007 (Nat.le_of_ble_eq_true rfl) rfl rfl (ia_oks_le hn1 rfl) (Nat.le_of_ble_eq_true rfl) (w_X12_isIn hn1 hn2 (d + 0) hE k24) (fun h hE => ?_)
        by_cases c25 : ¬ r23 = 0
        · have hf := zif_t hf c25
          refine z_if_ne_t (tgt := 121) dX12_readItem_102 (by decide) c25 ?_
          refine z_aload_n dX12_readItem_121 rfl ?_
          refine z_iload_n dX12_readItem_122 rfl ?_
          refine z_iload dX12_readItem_123 rfl ?_
          obtain ⟨b26, hf⟩ := zchk hf
          obtain ⟨S27, eS27, hf⟩ := zl_some hf
          refine z_iastoreL (i := v2.toNatClampNeg) dX12_readItem_125 hE dr_47 b26 rfl (fun h hE => ?_)
          rw [← eS27] at hE
          have e_ := Option.some.inj hf
          subst e_
          exact z_vreturn dX12_readItem_126 rfl ⟨h, rfl, rfl, hE⟩
        · have hf := zif_f hf c25
          refine z_if_ne_f (tgt := 121) dX12_readItem_102 (by decide) c25 ?_
          refine z_aload_n dX12_readItem_105 rfl ?_
          refine z_dup dX12_readItem_106 rfl ?_
          refine z_getI dX12_readItem_107 tF_12_116 hE dr_41 rfl rfl ?_
          refine z_iconst (v := 1) dX12_readItem_110 (by decide) ?_
          refine z_isub dX12_readItem_111 ?_
          obtain ⟨S28, eS28, hf⟩ := zl_some hf
          refine z_putI dX12_readItem_112 tF_12_116 hE dr_41 rfl rfl rfl rfl (fun h hE => ?_)
          rw [← eS28] at hE
          refine z_aload_n dX12_readItem_115 rfl ?_
          obtain ⟨r30, S29, k31, hf⟩ := zb_some hf
          refine z_callVi dX12_readItem_116 tM_12_131 mt_12012 (Nat.le_of_ble_eq_true rfl) rfl rfl (z_recv hE dr_41 rfl) rfl (ia_oks_le hn1 rfl) (Nat.le_of_ble_eq_true rfl) (w_X12_fails hn1 hn2 (d + 0) hE k31) (fun h hE => ?_)
          refine z_pop dX12_readItem_119 rfl ?_
          have e_ := Option.some.inj hf
          subst e_
          exact z_vreturn dX12_readItem_120 rfl ⟨h, rfl, rfl, hE⟩
      · have hf := zif_f hf c21
        refine z_if_eq_f (tgt := 91) dX12_readItem_82 (by decide) c21 ?_
        refine z_aload_n dX12_readItem_85 rfl ?_
        obtain ⟨r33, S32, k34, hf⟩ := zb_some hf
        refine z_callVi dX12_readItem_86 tM_12_131 mt_12012 (Nat.le_of_ble_eq_true rfl) rfl rfl (z_recv hE dr_41 rfl) rfl (ia_oks_le hn1 rfl) (Nat.le_of_ble_eq_true rfl) (w_X12_fails hn1 hn2 (d + 0) hE k34) (fun h hE => ?_)
        refine z_pop dX12_readItem_89 rfl ?_
        have e_ := Option.some.inj hf
        subst e_
        exact z_vreturn dX12_readItem_90 rfl ⟨h, rfl, rfl, hE⟩
    by_cases c14 : r12 = 0
    · have hf := zif_t hf c14
      refine z_if_eq_t (tgt := 78) dX12_readItem_50 (by decide) c14 ?_
      exact zW.sub (hJ15 y9 S11 _ hE hf) [2, 3, 4, 5, 6, 1, 0] rfl rfl rfl rfl
    · have hf := zif_f hf c14
      refine z_if_eq_f (tgt := 78) dX12_readItem_50 (by decide) c14 ?_
      refine z_bipush (v := 10) dX12_readItem_53 (by decide) ?_
      refine z_iload dX12_readItem_55 rfl ?_
      refine z_imul dX12_readItem_57 ?_
      refine z_aload_n dX12_readItem_58 rfl ?_
      obtain ⟨r36, S35, k37, hf⟩ := zb_some hf
      refine z_callVi dX12_readItem_59 tM_12_211 mt_12020 (Nat.le_of_ble_eq_true rfl) rfl rfl (z_recv hE dr_41 rfl) rfl (ia_oks_le hn1 rfl) (Nat.le_of_ble_eq_true rfl) (w_X12_here hn1 hn2 (d + 0) hE k37) (fun h hE => ?_)
      refine z_iadd dX12_readItem_62 ?_
      refine z_bipush (v := 48) dX12_readItem_63 (by decide) ?_
      refine z_isub dX12_readItem_65 ?_
      obtain ⟨y38, ey38, hf⟩ := zl_some hf
      refine z_topi ey38 ?_
      refine z_istore (lv' := [(6, .int y38), (5, .int r3), (0, .ref 41), (1, .ref 47), (2, .int v2), (3, .int v3), (4, .int v4)]) dX12_readItem_66 (by decide) rfl ?_
      refine z_aload_n dX12_readItem_68 rfl ?_
      refine z_dup dX12_readItem_69 rfl ?_
      refine z_getI dX12_readItem_70 tF_12_116 hE dr_41 rfl rfl ?_
      refine z_iconst (v := 1) dX12_readItem_73 (by decide) ?_
      refine z_iadd dX12_readItem_74 ?_
      obtain ⟨S39, eS39, hf⟩ := zl_some hf
      refine z_putI dX12_readItem_75 tF_12_116 hE dr_41 rfl rfl rfl rfl (fun h hE => ?_)
      rw [← eS39] at hE
      exact zW.sub (hJ15 y38 S39 _ hE hf) [2, 3, 4, 5, 6, 1, 0] rfl rfl rfl rfl
  · have hf := zif_f hf c8
    refine z_if_ne_f (tgt := 29) dX12_readItem_20 (by decide) c8 ?_
    refine z_aload_n dX12_readItem_23 rfl ?_
    obtain ⟨r41, S40, k42, hf⟩ := zb_some hf
    refine z_callVi dX12_readItem_24 tM_12_131 mt_12012 (Nat.le_of_ble_eq_true rfl) rfl rfl (z_recv hE dr_41 rfl) rfl (ia_oks_le hn1 rfl) (Nat.le_of_ble_eq_true rfl) (w_X12_fails hn1 hn2 (d + 0) hE k42) (fun h hE => ?_)
    refine z_pop dX12_readItem_27 rfl ?_
    have e_ := Option.some.inj hf
    subst e_
    exact z_vreturn dX12_readItem_28 rfl ⟨h, rfl, rfl, hE⟩
def f_X12_readClause_L221 (ex : Int32 → zS → Option (Unit × zS)) (i1 : Int32) (i2 : Int32) (i3 : Int32) : Nat → Int32 → zS → Option (Unit × zS)
  | 0, _, _ => none
  | k + 1, x6, S =>
    zb (f_J0_length_8abf5_1000103 S) fun r35 S34 =>
    if r35 ≤ x6 then
    ex x6 S34
    else
    zb (f_X12_usual i1 x6 S34) fun r39 S38 =>
    if ia_in (i3 + x6) 8 = true then
    zl (sV S38 51 ((i3 + x6).toNatClampNeg) r39) fun S42 =>
    zl (x6 + 1) fun (y43 : Int32) =>
    f_X12_readClause_L221 ex i1 i2 i3 k y43 S42
    else none
def f_X12_readClause_L264 (ex : Int32 → Int32 → zS → Option (Unit × zS)) (i1 : Int32) (i2 : Int32) (i3 : Int32) : Nat → Int32 → Int32 → zS → Option (Unit × zS)
  | 0, _, _, _ => none
  | k + 1, x6, x7, S =>
    if x7 = (-1) then
    ex x6 x7 S
    else
    if ¬ (S.1 41 11) = (-1) then
    ex x6 x7 S
    else
    zb (f_X12_has x6 x7 S) fun r55 S54 =>
    if r55 = 0 then
    zl (x6 ||| (1 <<< (x7 &&& 31))) fun (y58 : Int32) =>
    zb (f_X12_leastOf i1 x7 S54) fun r60 S59 =>
    zb (f_X12_mostOf i1 x7 S59) fun r63 S62 =>
    zb (f_X12_readItem_51 (i3 + x7) r60 r63 S62) fun _ S65 =>
    if ¬ (S65.1 41 11) = (-1) then
    f_X12_readClause_L264 ex i1 i2 i3 k y58 x7 S65
    else
    zb (f_X12_look S65) fun r70 S69 =>
    zb (f_X12_placeOf_1000103 r70 S69) fun r73 S72 =>
    f_X12_readClause_L264 ex i1 i2 i3 k y58 r73 S72
    else
    zb (f_X12_fails S54) fun r76 S75 =>
    some ((), S75)
def f_X12_readClause_L221a (ex : Int32 → zS → Option (Unit × zS)) (i1 : Int32) (i2 : Int32) (i3 : Int32) : Nat → Int32 → zS → Option (Unit × zS)
  | 0, _, _ => none
  | k + 1, x6, S =>
    zb (f_J0_length_8abf5_1000102 S) fun r94 S93 =>
    if r94 ≤ x6 then
    ex x6 S93
    else
    zb (f_X12_usual i1 x6 S93) fun r98 S97 =>
    if ia_in (i3 + x6) 8 = true then
    zl (sV S97 51 ((i3 + x6).toNatClampNeg) r98) fun S101 =>
    zl (x6 + 1) fun (y102 : Int32) =>
    f_X12_readClause_L221a ex i1 i2 i3 k y102 S101
    else none
def f_X12_readClause_L264a (ex : Int32 → Int32 → zS → Option (Unit × zS)) (i1 : Int32) (i2 : Int32) (i3 : Int32) : Nat → Int32 → Int32 → zS → Option (Unit × zS)
  | 0, _, _, _ => none
  | k + 1, x6, x7, S =>
    if x7 = (-1) then
    ex x6 x7 S
    else
    if ¬ (S.1 41 11) = (-1) then
    ex x6 x7 S
    else
    zb (f_X12_has x6 x7 S) fun r114 S113 =>
    if r114 = 0 then
    zl (x6 ||| (1 <<< (x7 &&& 31))) fun (y117 : Int32) =>
    zb (f_X12_leastOf i1 x7 S113) fun r119 S118 =>
    zb (f_X12_mostOf i1 x7 S118) fun r122 S121 =>
    zb (f_X12_readItem_51 (i3 + x7) r119 r122 S121) fun _ S124 =>
    if ¬ (S124.1 41 11) = (-1) then
    f_X12_readClause_L264a ex i1 i2 i3 k y117 x7 S124
    else
    zb (f_X12_look S124) fun r129 S128 =>
    zb (f_X12_placeOf_1000102 r129 S128) fun r132 S131 =>
    f_X12_readClause_L264a ex i1 i2 i3 k y117 r132 S131
    else
    zb (f_X12_fails S113) fun r135 S134 =>
    some ((), S134)
def f_X12_readClause_L221b (ex : Int32 → zS → Option (Unit × zS)) (i1 : Int32) (i2 : Int32) (i3 : Int32) : Nat → Int32 → zS → Option (Unit × zS)
  | 0, _, _ => none
  | k + 1, x6, S =>
    zb (f_J0_length_8abf5_1000101 S) fun r153 S152 =>
    if r153 ≤ x6 then
    ex x6 S152
    else
    zb (f_X12_usual i1 x6 S152) fun r157 S156 =>
    if ia_in (i3 + x6) 8 = true then
    zl (sV S156 51 ((i3 + x6).toNatClampNeg) r157) fun S160 =>
    zl (x6 + 1) fun (y161 : Int32) =>
    f_X12_readClause_L221b ex i1 i2 i3 k y161 S160
    else none
def f_X12_readClause_L264b (ex : Int32 → Int32 → zS → Option (Unit × zS)) (i1 : Int32) (i2 : Int32) (i3 : Int32) : Nat → Int32 → Int32 → zS → Option (Unit × zS)
  | 0, _, _, _ => none
  | k + 1, x6, x7, S =>
    if x7 = (-1) then
    ex x6 x7 S
    else
    if ¬ (S.1 41 11) = (-1) then
    ex x6 x7 S
    else
    zb (f_X12_has x6 x7 S) fun r173 S172 =>
    if r173 = 0 then
    zl (x6 ||| (1 <<< (x7 &&& 31))) fun (y176 : Int32) =>
    zb (f_X12_leastOf i1 x7 S172) fun r178 S177 =>
    zb (f_X12_mostOf i1 x7 S177) fun r181 S180 =>
    zb (f_X12_readItem_51 (i3 + x7) r178 r181 S180) fun _ S183 =>
    if ¬ (S183.1 41 11) = (-1) then
    f_X12_readClause_L264b ex i1 i2 i3 k y176 x7 S183
    else
    zb (f_X12_look S183) fun r188 S187 =>
    zb (f_X12_placeOf_1000101 r188 S187) fun r191 S190 =>
    f_X12_readClause_L264b ex i1 i2 i3 k y176 r191 S190
    else
    zb (f_X12_fails S172) fun r194 S193 =>
    some ((), S193)
def f_X12_readClause_L221c (ex : Int32 → zS → Option (Unit × zS)) (i1 : Int32) (i2 : Int32) (i3 : Int32) : Nat → Int32 → zS → Option (Unit × zS)
  | 0, _, _ => none
  | k + 1, x6, S =>
    zb (f_J0_length_8abf5_1000103 S) fun r214 S213 =>
    if r214 ≤ x6 then
    ex x6 S213
    else
    zb (f_X12_usual i1 x6 S213) fun r218 S217 =>
    if ia_in (i3 + x6) 30 = true then
    zl (sV S217 49 ((i3 + x6).toNatClampNeg) r218) fun S221 =>
    zl (x6 + 1) fun (y222 : Int32) =>
    f_X12_readClause_L221c ex i1 i2 i3 k y222 S221
    else none
def f_X12_readClause_L264c (ex : Int32 → Int32 → zS → Option (Unit × zS)) (i1 : Int32) (i2 : Int32) (i3 : Int32) : Nat → Int32 → Int32 → zS → Option (Unit × zS)
  | 0, _, _, _ => none
  | k + 1, x6, x7, S =>
    if x7 = (-1) then
    ex x6 x7 S
    else
    if ¬ (S.1 41 11) = (-1) then
    ex x6 x7 S
    else
    zb (f_X12_has x6 x7 S) fun r234 S233 =>
    if r234 = 0 then
    zl (x6 ||| (1 <<< (x7 &&& 31))) fun (y237 : Int32) =>
    zb (f_X12_leastOf i1 x7 S233) fun r239 S238 =>
    zb (f_X12_mostOf i1 x7 S238) fun r242 S241 =>
    zb (f_X12_readItem_49 (i3 + x7) r239 r242 S241) fun _ S244 =>
    if ¬ (S244.1 41 11) = (-1) then
    f_X12_readClause_L264c ex i1 i2 i3 k y237 x7 S244
    else
    zb (f_X12_look S244) fun r249 S248 =>
    zb (f_X12_placeOf_1000103 r249 S248) fun r252 S251 =>
    f_X12_readClause_L264c ex i1 i2 i3 k y237 r252 S251
    else
    zb (f_X12_fails S233) fun r255 S254 =>
    some ((), S254)
def f_X12_readClause_L221d (ex : Int32 → zS → Option (Unit × zS)) (i1 : Int32) (i2 : Int32) (i3 : Int32) : Nat → Int32 → zS → Option (Unit × zS)
  | 0, _, _ => none
  | k + 1, x6, S =>
    zb (f_J0_length_8abf5_1000102 S) fun r273 S272 =>
    if r273 ≤ x6 then
    ex x6 S272
    else
    zb (f_X12_usual i1 x6 S272) fun r277 S276 =>
    if ia_in (i3 + x6) 30 = true then
    zl (sV S276 49 ((i3 + x6).toNatClampNeg) r277) fun S280 =>
    zl (x6 + 1) fun (y281 : Int32) =>
    f_X12_readClause_L221d ex i1 i2 i3 k y281 S280
    else none
def f_X12_readClause_L264d (ex : Int32 → Int32 → zS → Option (Unit × zS)) (i1 : Int32) (i2 : Int32) (i3 : Int32) : Nat → Int32 → Int32 → zS → Option (Unit × zS)
  | 0, _, _, _ => none
  | k + 1, x6, x7, S =>
    if x7 = (-1) then
    ex x6 x7 S
    else
    if ¬ (S.1 41 11) = (-1) then
    ex x6 x7 S
    else
    zb (f_X12_has x6 x7 S) fun r293 S292 =>
    if r293 = 0 then
    zl (x6 ||| (1 <<< (x7 &&& 31))) fun (y296 : Int32) =>
    zb (f_X12_leastOf i1 x7 S292) fun r298 S297 =>
    zb (f_X12_mostOf i1 x7 S297) fun r301 S300 =>
    zb (f_X12_readItem_49 (i3 + x7) r298 r301 S300) fun _ S303 =>
    if ¬ (S303.1 41 11) = (-1) then
    f_X12_readClause_L264d ex i1 i2 i3 k y296 x7 S303
    else
    zb (f_X12_look S303) fun r308 S307 =>
    zb (f_X12_placeOf_1000102 r308 S307) fun r311 S310 =>
    f_X12_readClause_L264d ex i1 i2 i3 k y296 r311 S310
    else
    zb (f_X12_fails S292) fun r314 S313 =>
    some ((), S313)
def f_X12_readClause_L221e (ex : Int32 → zS → Option (Unit × zS)) (i1 : Int32) (i2 : Int32) (i3 : Int32) : Nat → Int32 → zS → Option (Unit × zS)
  | 0, _, _ => none
  | k + 1, x6, S =>
    zb (f_J0_length_8abf5_1000101 S) fun r332 S331 =>
    if r332 ≤ x6 then
    ex x6 S331
    else
    zb (f_X12_usual i1 x6 S331) fun r336 S335 =>
    if ia_in (i3 + x6) 30 = true then
    zl (sV S335 49 ((i3 + x6).toNatClampNeg) r336) fun S339 =>
    zl (x6 + 1) fun (y340 : Int32) =>
    f_X12_readClause_L221e ex i1 i2 i3 k y340 S339
    else none
def f_X12_readClause_L264e (ex : Int32 → Int32 → zS → Option (Unit × zS)) (i1 : Int32) (i2 : Int32) (i3 : Int32) : Nat → Int32 → Int32 → zS → Option (Unit × zS)
  | 0, _, _, _ => none
  | k + 1, x6, x7, S =>
    if x7 = (-1) then
    ex x6 x7 S
    else
    if ¬ (S.1 41 11) = (-1) then
    ex x6 x7 S
    else
    zb (f_X12_has x6 x7 S) fun r352 S351 =>
    if r352 = 0 then
    zl (x6 ||| (1 <<< (x7 &&& 31))) fun (y355 : Int32) =>
    zb (f_X12_leastOf i1 x7 S351) fun r357 S356 =>
    zb (f_X12_mostOf i1 x7 S356) fun r360 S359 =>
    zb (f_X12_readItem_49 (i3 + x7) r357 r360 S359) fun _ S362 =>
    if ¬ (S362.1 41 11) = (-1) then
    f_X12_readClause_L264e ex i1 i2 i3 k y355 x7 S362
    else
    zb (f_X12_look S362) fun r367 S366 =>
    zb (f_X12_placeOf_1000101 r367 S366) fun r370 S369 =>
    f_X12_readClause_L264e ex i1 i2 i3 k y355 r370 S369
    else
    zb (f_X12_fails S351) fun r373 S372 =>
    some ((), S372)
def f_X12_readClause_L221f (ex : Int32 → zS → Option (Unit × zS)) (i1 : Int32) (i2 : Int32) (i3 : Int32) : Nat → Int32 → zS → Option (Unit × zS)
  | 0, _, _ => none
  | k + 1, x6, S =>
    zb (f_J0_length_8abf5_1000103 S) fun r393 S392 =>
    if r393 ≤ x6 then
    ex x6 S392
    else
    zb (f_X12_usual i1 x6 S392) fun r397 S396 =>
    if ia_in (i3 + x6) 24 = true then
    zl (sV S396 47 ((i3 + x6).toNatClampNeg) r397) fun S400 =>
    zl (x6 + 1) fun (y401 : Int32) =>
    f_X12_readClause_L221f ex i1 i2 i3 k y401 S400
    else none
def f_X12_readClause_L264f (ex : Int32 → Int32 → zS → Option (Unit × zS)) (i1 : Int32) (i2 : Int32) (i3 : Int32) : Nat → Int32 → Int32 → zS → Option (Unit × zS)
  | 0, _, _, _ => none
  | k + 1, x6, x7, S =>
    if x7 = (-1) then
    ex x6 x7 S
    else
    if ¬ (S.1 41 11) = (-1) then
    ex x6 x7 S
    else
    zb (f_X12_has x6 x7 S) fun r413 S412 =>
    if r413 = 0 then
    zl (x6 ||| (1 <<< (x7 &&& 31))) fun (y416 : Int32) =>
    zb (f_X12_leastOf i1 x7 S412) fun r418 S417 =>
    zb (f_X12_mostOf i1 x7 S417) fun r421 S420 =>
    zb (f_X12_readItem_47 (i3 + x7) r418 r421 S420) fun _ S423 =>
    if ¬ (S423.1 41 11) = (-1) then
    f_X12_readClause_L264f ex i1 i2 i3 k y416 x7 S423
    else
    zb (f_X12_look S423) fun r428 S427 =>
    zb (f_X12_placeOf_1000103 r428 S427) fun r431 S430 =>
    f_X12_readClause_L264f ex i1 i2 i3 k y416 r431 S430
    else
    zb (f_X12_fails S412) fun r434 S433 =>
    some ((), S433)
def f_X12_readClause_L221g (ex : Int32 → zS → Option (Unit × zS)) (i1 : Int32) (i2 : Int32) (i3 : Int32) : Nat → Int32 → zS → Option (Unit × zS)
  | 0, _, _ => none
  | k + 1, x6, S =>
    zb (f_J0_length_8abf5_1000102 S) fun r452 S451 =>
    if r452 ≤ x6 then
    ex x6 S451
    else
    zb (f_X12_usual i1 x6 S451) fun r456 S455 =>
    if ia_in (i3 + x6) 24 = true then
    zl (sV S455 47 ((i3 + x6).toNatClampNeg) r456) fun S459 =>
    zl (x6 + 1) fun (y460 : Int32) =>
    f_X12_readClause_L221g ex i1 i2 i3 k y460 S459
    else none
def f_X12_readClause_L264g (ex : Int32 → Int32 → zS → Option (Unit × zS)) (i1 : Int32) (i2 : Int32) (i3 : Int32) : Nat → Int32 → Int32 → zS → Option (Unit × zS)
  | 0, _, _, _ => none
  | k + 1, x6, x7, S =>
    if x7 = (-1) then
    ex x6 x7 S
    else
    if ¬ (S.1 41 11) = (-1) then
    ex x6 x7 S
    else
    zb (f_X12_has x6 x7 S) fun r472 S471 =>
    if r472 = 0 then
    zl (x6 ||| (1 <<< (x7 &&& 31))) fun (y475 : Int32) =>
    zb (f_X12_leastOf i1 x7 S471) fun r477 S476 =>
    zb (f_X12_mostOf i1 x7 S476) fun r480 S479 =>
    zb (f_X12_readItem_47 (i3 + x7) r477 r480 S479) fun _ S482 =>
    if ¬ (S482.1 41 11) = (-1) then
    f_X12_readClause_L264g ex i1 i2 i3 k y475 x7 S482
    else
    zb (f_X12_look S482) fun r487 S486 =>
    zb (f_X12_placeOf_1000102 r487 S486) fun r490 S489 =>
    f_X12_readClause_L264g ex i1 i2 i3 k y475 r490 S489
    else
    zb (f_X12_fails S471) fun r493 S492 =>
    some ((), S492)
def f_X12_readClause_L221h (ex : Int32 → zS → Option (Unit × zS)) (i1 : Int32) (i2 : Int32) (i3 : Int32) : Nat → Int32 → zS → Option (Unit × zS)
  | 0, _, _ => none
  | k + 1, x6, S =>
    zb (f_J0_length_8abf5_1000101 S) fun r511 S510 =>
    if r511 ≤ x6 then
    ex x6 S510
    else
    zb (f_X12_usual i1 x6 S510) fun r515 S514 =>
    if ia_in (i3 + x6) 24 = true then
    zl (sV S514 47 ((i3 + x6).toNatClampNeg) r515) fun S518 =>
    zl (x6 + 1) fun (y519 : Int32) =>
    f_X12_readClause_L221h ex i1 i2 i3 k y519 S518
    else none
def f_X12_readClause_L264h (ex : Int32 → Int32 → zS → Option (Unit × zS)) (i1 : Int32) (i2 : Int32) (i3 : Int32) : Nat → Int32 → Int32 → zS → Option (Unit × zS)
  | 0, _, _, _ => none
  | k + 1, x6, x7, S =>
    if x7 = (-1) then
    ex x6 x7 S
    else
    if ¬ (S.1 41 11) = (-1) then
    ex x6 x7 S
    else
    zb (f_X12_has x6 x7 S) fun r531 S530 =>
    if r531 = 0 then
    zl (x6 ||| (1 <<< (x7 &&& 31))) fun (y534 : Int32) =>
    zb (f_X12_leastOf i1 x7 S530) fun r536 S535 =>
    zb (f_X12_mostOf i1 x7 S535) fun r539 S538 =>
    zb (f_X12_readItem_47 (i3 + x7) r536 r539 S538) fun _ S541 =>
    if ¬ (S541.1 41 11) = (-1) then
    f_X12_readClause_L264h ex i1 i2 i3 k y534 x7 S541
    else
    zb (f_X12_look S541) fun r546 S545 =>
    zb (f_X12_placeOf_1000101 r546 S545) fun r549 S548 =>
    f_X12_readClause_L264h ex i1 i2 i3 k y534 r549 S548
    else
    zb (f_X12_fails S530) fun r552 S551 =>
    some ((), S551)
def f_X12_readClause  (S : zS) : Option (Unit × zS) :=
zb (f_X12_look S) fun r2 S1 =>
zl (fun (u6 : Unit) =>
zl (fun (u9 : Unit) =>
zl (fun (u12 : Unit) =>
zb (f_X12_fails S1) fun r14 S13 =>
some ((), S13)) fun J11 =>
if ¬ r2 = 116 then
J11 ()
else
if 4 ≤ (S1.1 41 29) then
J11 ()
else
zl (sV S1 41 10 ((S1.1 41 10) + 1)) fun S17 =>
zl (fun (q20 : Int32) =>
if ¬ r2 = 106 then
if ¬ r2 = 104 then
if ¬ r2 = 106 then
if ¬ r2 = 104 then
zl (fun (S27 : zS) =>
zl (fun (S30 : zS) =>
zl (fun (S33 : zS) =>
f_X12_readClause_L221 (fun (q45 : Int32) (S44 : zS) =>
zb (f_X12_look S44) fun r47 S46 =>
zb (f_X12_placeOf_1000103 r47 S46) fun r50 S49 =>
f_X12_readClause_L264 (fun (q79 : Int32) (q80 : Int32) (S78 : zS) =>
some ((), S78)) r2 1 q20 zN 0 r50 S49) r2 1 q20 zN 0 S33) fun J32 =>
if ¬ r2 = 116 then
J32 S30
else
zl (sV S30 41 29 ((S30.1 41 29) + 1)) fun S81 =>
J32 S81) fun J29 =>
if ¬ r2 = 104 then
J29 S27
else
zl (sV S27 41 28 ((S27.1 41 28) + 1)) fun S82 =>
J29 S82) fun J26 =>
if ¬ r2 = 106 then
J26 S17
else
zl (sV S17 41 27 ((S17.1 41 27) + 1)) fun S83 =>
J26 S83
else
zl (fun (S86 : zS) =>
zl (fun (S89 : zS) =>
zl (fun (S92 : zS) =>
f_X12_readClause_L221a (fun (q104 : Int32) (S103 : zS) =>
zb (f_X12_look S103) fun r106 S105 =>
zb (f_X12_placeOf_1000102 r106 S105) fun r109 S108 =>
f_X12_readClause_L264a (fun (q138 : Int32) (q139 : Int32) (S137 : zS) =>
some ((), S137)) r2 1 q20 zN 0 r109 S108) r2 1 q20 zN 0 S92) fun J91 =>
if ¬ r2 = 116 then
J91 S89
else
zl (sV S89 41 29 ((S89.1 41 29) + 1)) fun S140 =>
J91 S140) fun J88 =>
if ¬ r2 = 104 then
J88 S86
else
zl (sV S86 41 28 ((S86.1 41 28) + 1)) fun S141 =>
J88 S141) fun J85 =>
if ¬ r2 = 106 then
J85 S17
else
zl (sV S17 41 27 ((S17.1 41 27) + 1)) fun S142 =>
J85 S142
else
zl (fun (S145 : zS) =>
zl (fun (S148 : zS) =>
zl (fun (S151 : zS) =>
f_X12_readClause_L221b (fun (q163 : Int32) (S162 : zS) =>
zb (f_X12_look S162) fun r165 S164 =>
zb (f_X12_placeOf_1000101 r165 S164) fun r168 S167 =>
f_X12_readClause_L264b (fun (q197 : Int32) (q198 : Int32) (S196 : zS) =>
some ((), S196)) r2 1 q20 zN 0 r168 S167) r2 1 q20 zN 0 S151) fun J150 =>
if ¬ r2 = 116 then
J150 S148
else
zl (sV S148 41 29 ((S148.1 41 29) + 1)) fun S199 =>
J150 S199) fun J147 =>
if ¬ r2 = 104 then
J147 S145
else
zl (sV S145 41 28 ((S145.1 41 28) + 1)) fun S200 =>
J147 S200) fun J144 =>
if ¬ r2 = 106 then
J144 S17
else
zl (sV S17 41 27 ((S17.1 41 27) + 1)) fun S201 =>
J144 S201
else
if ¬ r2 = 106 then
if ¬ r2 = 104 then
zl (fun (S206 : zS) =>
zl (fun (S209 : zS) =>
zl (fun (S212 : zS) =>
f_X12_readClause_L221c (fun (q224 : Int32) (S223 : zS) =>
zb (f_X12_look S223) fun r226 S225 =>
zb (f_X12_placeOf_1000103 r226 S225) fun r229 S228 =>
f_X12_readClause_L264c (fun (q258 : Int32) (q259 : Int32) (S257 : zS) =>
some ((), S257)) r2 1 q20 zN 0 r229 S228) r2 1 q20 zN 0 S212) fun J211 =>
if ¬ r2 = 116 then
J211 S209
else
zl (sV S209 41 29 ((S209.1 41 29) + 1)) fun S260 =>
J211 S260) fun J208 =>
if ¬ r2 = 104 then
J208 S206
else
zl (sV S206 41 28 ((S206.1 41 28) + 1)) fun S261 =>
J208 S261) fun J205 =>
if ¬ r2 = 106 then
J205 S17
else
zl (sV S17 41 27 ((S17.1 41 27) + 1)) fun S262 =>
J205 S262
else
zl (fun (S265 : zS) =>
zl (fun (S268 : zS) =>
zl (fun (S271 : zS) =>
f_X12_readClause_L221d (fun (q283 : Int32) (S282 : zS) =>
zb (f_X12_look S282) fun r285 S284 =>
zb (f_X12_placeOf_1000102 r285 S284) fun r288 S287 =>
f_X12_readClause_L264d (fun (q317 : Int32) (q318 : Int32) (S316 : zS) =>
some ((), S316)) r2 1 q20 zN 0 r288 S287) r2 1 q20 zN 0 S271) fun J270 =>
if ¬ r2 = 116 then
J270 S268
else
zl (sV S268 41 29 ((S268.1 41 29) + 1)) fun S319 =>
J270 S319) fun J267 =>
if ¬ r2 = 104 then
J267 S265
else
zl (sV S265 41 28 ((S265.1 41 28) + 1)) fun S320 =>
J267 S320) fun J264 =>
if ¬ r2 = 106 then
J264 S17
else
zl (sV S17 41 27 ((S17.1 41 27) + 1)) fun S321 =>
J264 S321
else
zl (fun (S324 : zS) =>
zl (fun (S327 : zS) =>
zl (fun (S330 : zS) =>
f_X12_readClause_L221e (fun (q342 : Int32) (S341 : zS) =>
zb (f_X12_look S341) fun r344 S343 =>
zb (f_X12_placeOf_1000101 r344 S343) fun r347 S346 =>
f_X12_readClause_L264e (fun (q376 : Int32) (q377 : Int32) (S375 : zS) =>
some ((), S375)) r2 1 q20 zN 0 r347 S346) r2 1 q20 zN 0 S330) fun J329 =>
if ¬ r2 = 116 then
J329 S327
else
zl (sV S327 41 29 ((S327.1 41 29) + 1)) fun S378 =>
J329 S378) fun J326 =>
if ¬ r2 = 104 then
J326 S324
else
zl (sV S324 41 28 ((S324.1 41 28) + 1)) fun S379 =>
J326 S379) fun J323 =>
if ¬ r2 = 106 then
J323 S17
else
zl (sV S17 41 27 ((S17.1 41 27) + 1)) fun S380 =>
J323 S380
else
if ¬ r2 = 106 then
if ¬ r2 = 104 then
zl (fun (S385 : zS) =>
zl (fun (S388 : zS) =>
zl (fun (S391 : zS) =>
f_X12_readClause_L221f (fun (q403 : Int32) (S402 : zS) =>
zb (f_X12_look S402) fun r405 S404 =>
zb (f_X12_placeOf_1000103 r405 S404) fun r408 S407 =>
f_X12_readClause_L264f (fun (q437 : Int32) (q438 : Int32) (S436 : zS) =>
some ((), S436)) r2 1 q20 zN 0 r408 S407) r2 1 q20 zN 0 S391) fun J390 =>
if ¬ r2 = 116 then
J390 S388
else
zl (sV S388 41 29 ((S388.1 41 29) + 1)) fun S439 =>
J390 S439) fun J387 =>
if ¬ r2 = 104 then
J387 S385
else
zl (sV S385 41 28 ((S385.1 41 28) + 1)) fun S440 =>
J387 S440) fun J384 =>
if ¬ r2 = 106 then
J384 S17
else
zl (sV S17 41 27 ((S17.1 41 27) + 1)) fun S441 =>
J384 S441
else
zl (fun (S444 : zS) =>
zl (fun (S447 : zS) =>
zl (fun (S450 : zS) =>
f_X12_readClause_L221g (fun (q462 : Int32) (S461 : zS) =>
zb (f_X12_look S461) fun r464 S463 =>
zb (f_X12_placeOf_1000102 r464 S463) fun r467 S466 =>
f_X12_readClause_L264g (fun (q496 : Int32) (q497 : Int32) (S495 : zS) =>
some ((), S495)) r2 1 q20 zN 0 r467 S466) r2 1 q20 zN 0 S450) fun J449 =>
if ¬ r2 = 116 then
J449 S447
else
zl (sV S447 41 29 ((S447.1 41 29) + 1)) fun S498 =>
J449 S498) fun J446 =>
if ¬ r2 = 104 then
J446 S444
else
zl (sV S444 41 28 ((S444.1 41 28) + 1)) fun S499 =>
J446 S499) fun J443 =>
if ¬ r2 = 106 then
J443 S17
else
zl (sV S17 41 27 ((S17.1 41 27) + 1)) fun S500 =>
J443 S500
else
zl (fun (S503 : zS) =>
zl (fun (S506 : zS) =>
zl (fun (S509 : zS) =>
f_X12_readClause_L221h (fun (q521 : Int32) (S520 : zS) =>
zb (f_X12_look S520) fun r523 S522 =>
zb (f_X12_placeOf_1000101 r523 S522) fun r526 S525 =>
f_X12_readClause_L264h (fun (q555 : Int32) (q556 : Int32) (S554 : zS) =>
some ((), S554)) r2 1 q20 zN 0 r526 S525) r2 1 q20 zN 0 S509) fun J508 =>
if ¬ r2 = 116 then
J508 S506
else
zl (sV S506 41 29 ((S506.1 41 29) + 1)) fun S557 =>
J508 S557) fun J505 =>
if ¬ r2 = 104 then
J505 S503
else
zl (sV S503 41 28 ((S503.1 41 28) + 1)) fun S558 =>
J505 S558) fun J502 =>
if ¬ r2 = 106 then
J502 S17
else
zl (sV S17 41 27 ((S17.1 41 27) + 1)) fun S559 =>
J502 S559) fun J19 =>
if ¬ r2 = 106 then
if ¬ r2 = 104 then
J19 (2 * (S17.1 41 29))
else
J19 (5 * (S17.1 41 28))
else
J19 (6 * (S17.1 41 27))) fun J8 =>
if ¬ r2 = 104 then
J8 ()
else
if (S1.1 41 28) < 6 then
zl (sV S1 41 10 ((S1.1 41 10) + 1)) fun S562 =>
zl (fun (q565 : Int32) =>
if ¬ r2 = 106 then
if ¬ r2 = 104 then
if ¬ r2 = 106 then
if ¬ r2 = 104 then
zl (fun (S572 : zS) =>
zl (fun (S575 : zS) =>
zl (fun (S578 : zS) =>
f_X12_readClause_L221 (fun (q590 : Int32) (S589 : zS) =>
zb (f_X12_look S589) fun r592 S591 =>
zb (f_X12_placeOf_1000103 r592 S591) fun r595 S594 =>
f_X12_readClause_L264 (fun (q624 : Int32) (q625 : Int32) (S623 : zS) =>
some ((), S623)) r2 1 q565 zN 0 r595 S594) r2 1 q565 zN 0 S578) fun J577 =>
if ¬ r2 = 116 then
J577 S575
else
zl (sV S575 41 29 ((S575.1 41 29) + 1)) fun S626 =>
J577 S626) fun J574 =>
if ¬ r2 = 104 then
J574 S572
else
zl (sV S572 41 28 ((S572.1 41 28) + 1)) fun S627 =>
J574 S627) fun J571 =>
if ¬ r2 = 106 then
J571 S562
else
zl (sV S562 41 27 ((S562.1 41 27) + 1)) fun S628 =>
J571 S628
else
zl (fun (S631 : zS) =>
zl (fun (S634 : zS) =>
zl (fun (S637 : zS) =>
f_X12_readClause_L221a (fun (q649 : Int32) (S648 : zS) =>
zb (f_X12_look S648) fun r651 S650 =>
zb (f_X12_placeOf_1000102 r651 S650) fun r654 S653 =>
f_X12_readClause_L264a (fun (q683 : Int32) (q684 : Int32) (S682 : zS) =>
some ((), S682)) r2 1 q565 zN 0 r654 S653) r2 1 q565 zN 0 S637) fun J636 =>
if ¬ r2 = 116 then
J636 S634
else
zl (sV S634 41 29 ((S634.1 41 29) + 1)) fun S685 =>
J636 S685) fun J633 =>
if ¬ r2 = 104 then
J633 S631
else
zl (sV S631 41 28 ((S631.1 41 28) + 1)) fun S686 =>
J633 S686) fun J630 =>
if ¬ r2 = 106 then
J630 S562
else
zl (sV S562 41 27 ((S562.1 41 27) + 1)) fun S687 =>
J630 S687
else
zl (fun (S690 : zS) =>
zl (fun (S693 : zS) =>
zl (fun (S696 : zS) =>
f_X12_readClause_L221b (fun (q708 : Int32) (S707 : zS) =>
zb (f_X12_look S707) fun r710 S709 =>
zb (f_X12_placeOf_1000101 r710 S709) fun r713 S712 =>
f_X12_readClause_L264b (fun (q742 : Int32) (q743 : Int32) (S741 : zS) =>
some ((), S741)) r2 1 q565 zN 0 r713 S712) r2 1 q565 zN 0 S696) fun J695 =>
if ¬ r2 = 116 then
J695 S693
else
zl (sV S693 41 29 ((S693.1 41 29) + 1)) fun S744 =>
J695 S744) fun J692 =>
if ¬ r2 = 104 then
J692 S690
else
zl (sV S690 41 28 ((S690.1 41 28) + 1)) fun S745 =>
J692 S745) fun J689 =>
if ¬ r2 = 106 then
J689 S562
else
zl (sV S562 41 27 ((S562.1 41 27) + 1)) fun S746 =>
J689 S746
else
if ¬ r2 = 106 then
if ¬ r2 = 104 then
zl (fun (S751 : zS) =>
zl (fun (S754 : zS) =>
zl (fun (S757 : zS) =>
f_X12_readClause_L221c (fun (q769 : Int32) (S768 : zS) =>
zb (f_X12_look S768) fun r771 S770 =>
zb (f_X12_placeOf_1000103 r771 S770) fun r774 S773 =>
f_X12_readClause_L264c (fun (q803 : Int32) (q804 : Int32) (S802 : zS) =>
some ((), S802)) r2 1 q565 zN 0 r774 S773) r2 1 q565 zN 0 S757) fun J756 =>
if ¬ r2 = 116 then
J756 S754
else
zl (sV S754 41 29 ((S754.1 41 29) + 1)) fun S805 =>
J756 S805) fun J753 =>
if ¬ r2 = 104 then
J753 S751
else
zl (sV S751 41 28 ((S751.1 41 28) + 1)) fun S806 =>
J753 S806) fun J750 =>
if ¬ r2 = 106 then
J750 S562
else
zl (sV S562 41 27 ((S562.1 41 27) + 1)) fun S807 =>
J750 S807
else
zl (fun (S810 : zS) =>
zl (fun (S813 : zS) =>
zl (fun (S816 : zS) =>
f_X12_readClause_L221d (fun (q828 : Int32) (S827 : zS) =>
zb (f_X12_look S827) fun r830 S829 =>
zb (f_X12_placeOf_1000102 r830 S829) fun r833 S832 =>
f_X12_readClause_L264d (fun (q862 : Int32) (q863 : Int32) (S861 : zS) =>
some ((), S861)) r2 1 q565 zN 0 r833 S832) r2 1 q565 zN 0 S816) fun J815 =>
if ¬ r2 = 116 then
J815 S813
else
zl (sV S813 41 29 ((S813.1 41 29) + 1)) fun S864 =>
J815 S864) fun J812 =>
if ¬ r2 = 104 then
J812 S810
else
zl (sV S810 41 28 ((S810.1 41 28) + 1)) fun S865 =>
J812 S865) fun J809 =>
if ¬ r2 = 106 then
J809 S562
else
zl (sV S562 41 27 ((S562.1 41 27) + 1)) fun S866 =>
J809 S866
else
zl (fun (S869 : zS) =>
zl (fun (S872 : zS) =>
zl (fun (S875 : zS) =>
f_X12_readClause_L221e (fun (q887 : Int32) (S886 : zS) =>
zb (f_X12_look S886) fun r889 S888 =>
zb (f_X12_placeOf_1000101 r889 S888) fun r892 S891 =>
f_X12_readClause_L264e (fun (q921 : Int32) (q922 : Int32) (S920 : zS) =>
some ((), S920)) r2 1 q565 zN 0 r892 S891) r2 1 q565 zN 0 S875) fun J874 =>
if ¬ r2 = 116 then
J874 S872
else
zl (sV S872 41 29 ((S872.1 41 29) + 1)) fun S923 =>
J874 S923) fun J871 =>
if ¬ r2 = 104 then
J871 S869
else
zl (sV S869 41 28 ((S869.1 41 28) + 1)) fun S924 =>
J871 S924) fun J868 =>
if ¬ r2 = 106 then
J868 S562
else
zl (sV S562 41 27 ((S562.1 41 27) + 1)) fun S925 =>
J868 S925
else
if ¬ r2 = 106 then
if ¬ r2 = 104 then
zl (fun (S930 : zS) =>
zl (fun (S933 : zS) =>
zl (fun (S936 : zS) =>
f_X12_readClause_L221f (fun (q948 : Int32) (S947 : zS) =>
zb (f_X12_look S947) fun r950 S949 =>
zb (f_X12_placeOf_1000103 r950 S949) fun r953 S952 =>
f_X12_readClause_L264f (fun (q982 : Int32) (q983 : Int32) (S981 : zS) =>
some ((), S981)) r2 1 q565 zN 0 r953 S952) r2 1 q565 zN 0 S936) fun J935 =>
if ¬ r2 = 116 then
J935 S933
else
zl (sV S933 41 29 ((S933.1 41 29) + 1)) fun S984 =>
J935 S984) fun J932 =>
if ¬ r2 = 104 then
J932 S930
else
zl (sV S930 41 28 ((S930.1 41 28) + 1)) fun S985 =>
J932 S985) fun J929 =>
if ¬ r2 = 106 then
J929 S562
else
zl (sV S562 41 27 ((S562.1 41 27) + 1)) fun S986 =>
J929 S986
else
zl (fun (S989 : zS) =>
zl (fun (S992 : zS) =>
zl (fun (S995 : zS) =>
f_X12_readClause_L221g (fun (q1007 : Int32) (S1006 : zS) =>
zb (f_X12_look S1006) fun r1009 S1008 =>
zb (f_X12_placeOf_1000102 r1009 S1008) fun r1012 S1011 =>
f_X12_readClause_L264g (fun (q1041 : Int32) (q1042 : Int32) (S1040 : zS) =>
some ((), S1040)) r2 1 q565 zN 0 r1012 S1011) r2 1 q565 zN 0 S995) fun J994 =>
if ¬ r2 = 116 then
J994 S992
else
zl (sV S992 41 29 ((S992.1 41 29) + 1)) fun S1043 =>
J994 S1043) fun J991 =>
if ¬ r2 = 104 then
J991 S989
else
zl (sV S989 41 28 ((S989.1 41 28) + 1)) fun S1044 =>
J991 S1044) fun J988 =>
if ¬ r2 = 106 then
J988 S562
else
zl (sV S562 41 27 ((S562.1 41 27) + 1)) fun S1045 =>
J988 S1045
else
zl (fun (S1048 : zS) =>
zl (fun (S1051 : zS) =>
zl (fun (S1054 : zS) =>
f_X12_readClause_L221h (fun (q1066 : Int32) (S1065 : zS) =>
zb (f_X12_look S1065) fun r1068 S1067 =>
zb (f_X12_placeOf_1000101 r1068 S1067) fun r1071 S1070 =>
f_X12_readClause_L264h (fun (q1100 : Int32) (q1101 : Int32) (S1099 : zS) =>
some ((), S1099)) r2 1 q565 zN 0 r1071 S1070) r2 1 q565 zN 0 S1054) fun J1053 =>
if ¬ r2 = 116 then
J1053 S1051
else
zl (sV S1051 41 29 ((S1051.1 41 29) + 1)) fun S1102 =>
J1053 S1102) fun J1050 =>
if ¬ r2 = 104 then
J1050 S1048
else
zl (sV S1048 41 28 ((S1048.1 41 28) + 1)) fun S1103 =>
J1050 S1103) fun J1047 =>
if ¬ r2 = 106 then
J1047 S562
else
zl (sV S562 41 27 ((S562.1 41 27) + 1)) fun S1104 =>
J1047 S1104) fun J564 =>
if ¬ r2 = 106 then
if ¬ r2 = 104 then
J564 (2 * (S562.1 41 29))
else
J564 (5 * (S562.1 41 28))
else
J564 (6 * (S562.1 41 27))
else
J8 ()) fun J5 =>
if ¬ r2 = 106 then
J5 ()
else
if (S1.1 41 27) < 4 then
zl (sV S1 41 10 ((S1.1 41 10) + 1)) fun S1107 =>
zl (fun (q1110 : Int32) =>
if ¬ r2 = 106 then
if ¬ r2 = 104 then
if ¬ r2 = 106 then
if ¬ r2 = 104 then
zl (fun (S1117 : zS) =>
zl (fun (S1120 : zS) =>
zl (fun (S1123 : zS) =>
f_X12_readClause_L221 (fun (q1135 : Int32) (S1134 : zS) =>
zb (f_X12_look S1134) fun r1137 S1136 =>
zb (f_X12_placeOf_1000103 r1137 S1136) fun r1140 S1139 =>
f_X12_readClause_L264 (fun (q1169 : Int32) (q1170 : Int32) (S1168 : zS) =>
some ((), S1168)) r2 1 q1110 zN 0 r1140 S1139) r2 1 q1110 zN 0 S1123) fun J1122 =>
if ¬ r2 = 116 then
J1122 S1120
else
zl (sV S1120 41 29 ((S1120.1 41 29) + 1)) fun S1171 =>
J1122 S1171) fun J1119 =>
if ¬ r2 = 104 then
J1119 S1117
else
zl (sV S1117 41 28 ((S1117.1 41 28) + 1)) fun S1172 =>
J1119 S1172) fun J1116 =>
if ¬ r2 = 106 then
J1116 S1107
else
zl (sV S1107 41 27 ((S1107.1 41 27) + 1)) fun S1173 =>
J1116 S1173
else
zl (fun (S1176 : zS) =>
zl (fun (S1179 : zS) =>
zl (fun (S1182 : zS) =>
f_X12_readClause_L221a (fun (q1194 : Int32) (S1193 : zS) =>
zb (f_X12_look S1193) fun r1196 S1195 =>
zb (f_X12_placeOf_1000102 r1196 S1195) fun r1199 S1198 =>
f_X12_readClause_L264a (fun (q1228 : Int32) (q1229 : Int32) (S1227 : zS) =>
some ((), S1227)) r2 1 q1110 zN 0 r1199 S1198) r2 1 q1110 zN 0 S1182) fun J1181 =>
if ¬ r2 = 116 then
J1181 S1179
else
zl (sV S1179 41 29 ((S1179.1 41 29) + 1)) fun S1230 =>
J1181 S1230) fun J1178 =>
if ¬ r2 = 104 then
J1178 S1176
else
zl (sV S1176 41 28 ((S1176.1 41 28) + 1)) fun S1231 =>
J1178 S1231) fun J1175 =>
if ¬ r2 = 106 then
J1175 S1107
else
zl (sV S1107 41 27 ((S1107.1 41 27) + 1)) fun S1232 =>
J1175 S1232
else
zl (fun (S1235 : zS) =>
zl (fun (S1238 : zS) =>
zl (fun (S1241 : zS) =>
f_X12_readClause_L221b (fun (q1253 : Int32) (S1252 : zS) =>
zb (f_X12_look S1252) fun r1255 S1254 =>
zb (f_X12_placeOf_1000101 r1255 S1254) fun r1258 S1257 =>
f_X12_readClause_L264b (fun (q1287 : Int32) (q1288 : Int32) (S1286 : zS) =>
some ((), S1286)) r2 1 q1110 zN 0 r1258 S1257) r2 1 q1110 zN 0 S1241) fun J1240 =>
if ¬ r2 = 116 then
J1240 S1238
else
zl (sV S1238 41 29 ((S1238.1 41 29) + 1)) fun S1289 =>
J1240 S1289) fun J1237 =>
if ¬ r2 = 104 then
J1237 S1235
else
zl (sV S1235 41 28 ((S1235.1 41 28) + 1)) fun S1290 =>
J1237 S1290) fun J1234 =>
if ¬ r2 = 106 then
J1234 S1107
else
zl (sV S1107 41 27 ((S1107.1 41 27) + 1)) fun S1291 =>
J1234 S1291
else
if ¬ r2 = 106 then
if ¬ r2 = 104 then
zl (fun (S1296 : zS) =>
zl (fun (S1299 : zS) =>
zl (fun (S1302 : zS) =>
f_X12_readClause_L221c (fun (q1314 : Int32) (S1313 : zS) =>
zb (f_X12_look S1313) fun r1316 S1315 =>
zb (f_X12_placeOf_1000103 r1316 S1315) fun r1319 S1318 =>
f_X12_readClause_L264c (fun (q1348 : Int32) (q1349 : Int32) (S1347 : zS) =>
some ((), S1347)) r2 1 q1110 zN 0 r1319 S1318) r2 1 q1110 zN 0 S1302) fun J1301 =>
if ¬ r2 = 116 then
J1301 S1299
else
zl (sV S1299 41 29 ((S1299.1 41 29) + 1)) fun S1350 =>
J1301 S1350) fun J1298 =>
if ¬ r2 = 104 then
J1298 S1296
else
zl (sV S1296 41 28 ((S1296.1 41 28) + 1)) fun S1351 =>
J1298 S1351) fun J1295 =>
if ¬ r2 = 106 then
J1295 S1107
else
zl (sV S1107 41 27 ((S1107.1 41 27) + 1)) fun S1352 =>
J1295 S1352
else
zl (fun (S1355 : zS) =>
zl (fun (S1358 : zS) =>
zl (fun (S1361 : zS) =>
f_X12_readClause_L221d (fun (q1373 : Int32) (S1372 : zS) =>
zb (f_X12_look S1372) fun r1375 S1374 =>
zb (f_X12_placeOf_1000102 r1375 S1374) fun r1378 S1377 =>
f_X12_readClause_L264d (fun (q1407 : Int32) (q1408 : Int32) (S1406 : zS) =>
some ((), S1406)) r2 1 q1110 zN 0 r1378 S1377) r2 1 q1110 zN 0 S1361) fun J1360 =>
if ¬ r2 = 116 then
J1360 S1358
else
zl (sV S1358 41 29 ((S1358.1 41 29) + 1)) fun S1409 =>
J1360 S1409) fun J1357 =>
if ¬ r2 = 104 then
J1357 S1355
else
zl (sV S1355 41 28 ((S1355.1 41 28) + 1)) fun S1410 =>
J1357 S1410) fun J1354 =>
if ¬ r2 = 106 then
J1354 S1107
else
zl (sV S1107 41 27 ((S1107.1 41 27) + 1)) fun S1411 =>
J1354 S1411
else
zl (fun (S1414 : zS) =>
zl (fun (S1417 : zS) =>
zl (fun (S1420 : zS) =>
f_X12_readClause_L221e (fun (q1432 : Int32) (S1431 : zS) =>
zb (f_X12_look S1431) fun r1434 S1433 =>
zb (f_X12_placeOf_1000101 r1434 S1433) fun r1437 S1436 =>
f_X12_readClause_L264e (fun (q1466 : Int32) (q1467 : Int32) (S1465 : zS) =>
some ((), S1465)) r2 1 q1110 zN 0 r1437 S1436) r2 1 q1110 zN 0 S1420) fun J1419 =>
if ¬ r2 = 116 then
J1419 S1417
else
zl (sV S1417 41 29 ((S1417.1 41 29) + 1)) fun S1468 =>
J1419 S1468) fun J1416 =>
if ¬ r2 = 104 then
J1416 S1414
else
zl (sV S1414 41 28 ((S1414.1 41 28) + 1)) fun S1469 =>
J1416 S1469) fun J1413 =>
if ¬ r2 = 106 then
J1413 S1107
else
zl (sV S1107 41 27 ((S1107.1 41 27) + 1)) fun S1470 =>
J1413 S1470
else
if ¬ r2 = 106 then
if ¬ r2 = 104 then
zl (fun (S1475 : zS) =>
zl (fun (S1478 : zS) =>
zl (fun (S1481 : zS) =>
f_X12_readClause_L221f (fun (q1493 : Int32) (S1492 : zS) =>
zb (f_X12_look S1492) fun r1495 S1494 =>
zb (f_X12_placeOf_1000103 r1495 S1494) fun r1498 S1497 =>
f_X12_readClause_L264f (fun (q1527 : Int32) (q1528 : Int32) (S1526 : zS) =>
some ((), S1526)) r2 1 q1110 zN 0 r1498 S1497) r2 1 q1110 zN 0 S1481) fun J1480 =>
if ¬ r2 = 116 then
J1480 S1478
else
zl (sV S1478 41 29 ((S1478.1 41 29) + 1)) fun S1529 =>
J1480 S1529) fun J1477 =>
if ¬ r2 = 104 then
J1477 S1475
else
zl (sV S1475 41 28 ((S1475.1 41 28) + 1)) fun S1530 =>
J1477 S1530) fun J1474 =>
if ¬ r2 = 106 then
J1474 S1107
else
zl (sV S1107 41 27 ((S1107.1 41 27) + 1)) fun S1531 =>
J1474 S1531
else
zl (fun (S1534 : zS) =>
zl (fun (S1537 : zS) =>
zl (fun (S1540 : zS) =>
f_X12_readClause_L221g (fun (q1552 : Int32) (S1551 : zS) =>
zb (f_X12_look S1551) fun r1554 S1553 =>
zb (f_X12_placeOf_1000102 r1554 S1553) fun r1557 S1556 =>
f_X12_readClause_L264g (fun (q1586 : Int32) (q1587 : Int32) (S1585 : zS) =>
some ((), S1585)) r2 1 q1110 zN 0 r1557 S1556) r2 1 q1110 zN 0 S1540) fun J1539 =>
if ¬ r2 = 116 then
J1539 S1537
else
zl (sV S1537 41 29 ((S1537.1 41 29) + 1)) fun S1588 =>
J1539 S1588) fun J1536 =>
if ¬ r2 = 104 then
J1536 S1534
else
zl (sV S1534 41 28 ((S1534.1 41 28) + 1)) fun S1589 =>
J1536 S1589) fun J1533 =>
if ¬ r2 = 106 then
J1533 S1107
else
zl (sV S1107 41 27 ((S1107.1 41 27) + 1)) fun S1590 =>
J1533 S1590
else
zl (fun (S1593 : zS) =>
zl (fun (S1596 : zS) =>
zl (fun (S1599 : zS) =>
f_X12_readClause_L221h (fun (q1611 : Int32) (S1610 : zS) =>
zb (f_X12_look S1610) fun r1613 S1612 =>
zb (f_X12_placeOf_1000101 r1613 S1612) fun r1616 S1615 =>
f_X12_readClause_L264h (fun (q1645 : Int32) (q1646 : Int32) (S1644 : zS) =>
some ((), S1644)) r2 1 q1110 zN 0 r1616 S1615) r2 1 q1110 zN 0 S1599) fun J1598 =>
if ¬ r2 = 116 then
J1598 S1596
else
zl (sV S1596 41 29 ((S1596.1 41 29) + 1)) fun S1647 =>
J1598 S1647) fun J1595 =>
if ¬ r2 = 104 then
J1595 S1593
else
zl (sV S1593 41 28 ((S1593.1 41 28) + 1)) fun S1648 =>
J1595 S1648) fun J1592 =>
if ¬ r2 = 106 then
J1592 S1107
else
zl (sV S1107 41 27 ((S1107.1 41 27) + 1)) fun S1649 =>
J1592 S1649) fun J1109 =>
if ¬ r2 = 106 then
if ¬ r2 = 104 then
J1109 (2 * (S1107.1 41 29))
else
J1109 (5 * (S1107.1 41 28))
else
J1109 (6 * (S1107.1 41 27))
else
J5 ()
theorem w_X12_readClause_L221 {L : Nat} {xs : Nat → Int32} {fm : Bool} {h0 : Nat → va_E} {t : Nat × Nat × Nat} (hn1 : 64 ≤ t.1) (hn2 : t.1 ≤ 1000000) (d : Nat) {ex : Int32 → zS → Option (Unit × zS)} {i1 : Int32} {i2 : Int32} {i3 : Int32} {R : Unit × zS} (hex : ∀ (x6 : Int32) (S : zS) (h : Nat → va_E), zE zDr h0 S (h, t) → ex x6 S = some R → zW (ia_P0 L xs fm) ia_nx (d + 5) 12 false cX12_readClause 8 (none) 250 [(0, .ref 41), (1, .int i1), (2, .int i2), (3, .int i3), (4, .ref 51), (5, .ref 1000103), (6, .int x6)] [] (h, t) (zQv zDr h0 t R)) : ∀ (k : Nat) (x6 : Int32) (S : zS) (h : Nat → va_E), zE zDr h0 S (h, t) → f_X12_readClause_L221 ex i1 i2 i3 k x6 S = some R → zW (ia_P0 L xs fm) ia_nx (d + 5) 12 false cX12_readClause 8 (none) 221 [(0, .ref 41), (1, .int i1), (2, .int i2), (3, .int i3), (4, .ref 51), (5, .ref 1000103), (6, .int x6)] [] (h, t) (zQv zDr h0 t R) := by
  intro k
  induction k with
  | zero => intro x6 S h hE hf; cases hf
  | succ k ih =>
    intro x6 S h hE hf
    unfold f_X12_readClause_L221 at hf
    refine z_iload dX12_readClause_221 rfl ?_
    refine z_aload dX12_readClause_223 rfl ?_
    obtain ⟨r35, S34, k36, hf⟩ := zb_some hf
    refine z_callVi dX12_readClause_225 tM_12_96 mt_900003 (Nat.le_of_ble_eq_true rfl) rfl rfl (z_recvC (hp := (h, t)) (by decide) hn2 hc_1000103) rfl (ia_oks_le hn1 rfl) (Nat.le_of_ble_eq_true rfl) (w_J0_length_8abf5_1000103 hn1 hn2 (d + 3) hE k36) (fun h hE => ?_)
    by_cases c37 : r35 ≤ x6
    · have hf := zif_t hf c37
      refine z_icmp_ge_t (tgt := 250) dX12_readClause_228 (by decide) c37 ?_
      exact zW.sub (hex x6 S34 _ hE hf) [0, 1, 2, 3, 4, 5, 6] rfl rfl rfl rfl
    · have hf := zif_f hf c37
      refine z_icmp_ge_f (tgt := 250) dX12_readClause_228 (by decide) c37 ?_
      refine z_aload dX12_readClause_231 rfl ?_
      refine z_iload_n dX12_readClause_233 rfl ?_
      refine z_iload dX12_readClause_234 rfl ?_
      refine z_iadd dX12_readClause_236 ?_
      refine z_iload_n dX12_readClause_237 rfl ?_
      refine z_iload dX12_readClause_238 rfl ?_
      obtain ⟨r39, S38, k40, hf⟩ := zb_some hf
      refine z_callSi dX12_readClause_240 tM_12_233 (by decide) mt_12013 (Nat.le_of_ble_eq_true rfl) rfl rfl (ia_oks_le hn1 rfl) (Nat.le_of_ble_eq_true rfl) (w_X12_usual hn1 hn2 (d + 4) hE k40) (fun h hE => ?_)
      obtain ⟨b41, hf⟩ := zchk hf
      obtain ⟨S42, eS42, hf⟩ := zl_some hf
      refine z_iastoreL (i := (i3 + x6).toNatClampNeg) dX12_readClause_243 hE dr_51 b41 rfl (fun h hE => ?_)
      rw [← eS42] at hE
      obtain ⟨y43, ey43, hf⟩ := zl_some hf
      refine z_iincY (v := 1) (y := y43) (lv' := [(6, .int y43), (0, .ref 41), (1, .int i1), (2, .int i2), (3, .int i3), (4, .ref 51), (5, .ref 1000103)]) dX12_readClause_244 rfl (by decide) (by decide) ey43 rfl ?_
      refine z_goto (tgt := 221) dX12_readClause_247 (by decide) ?_
      exact zW.sub (ih y43 S42 _ hE hf) [1, 2, 3, 4, 5, 6, 0] rfl rfl rfl rfl
theorem w_X12_readClause_L264 {L : Nat} {xs : Nat → Int32} {fm : Bool} {h0 : Nat → va_E} {t : Nat × Nat × Nat} (hn1 : 64 ≤ t.1) (hn2 : t.1 ≤ 1000000) (d : Nat) {ex : Int32 → Int32 → zS → Option (Unit × zS)} {i1 : Int32} {i2 : Int32} {i3 : Int32} {R : Unit × zS} (hex : ∀ (x6 : Int32) (x7 : Int32) (S : zS) (h : Nat → va_E), zE zDr h0 S (h, t) → ex x6 x7 S = some R → zW (ia_P0 L xs fm) ia_nx (d + 5) 12 false cX12_readClause 8 (none) 347 [(0, .ref 41), (1, .int i1), (2, .int i2), (3, .int i3), (4, .ref 51), (5, .ref 1000103), (6, .int x6), (7, .int x7)] [] (h, t) (zQv zDr h0 t R)) : ∀ (k : Nat) (x6 : Int32) (x7 : Int32) (S : zS) (h : Nat → va_E), zE zDr h0 S (h, t) → f_X12_readClause_L264 ex i1 i2 i3 k x6 x7 S = some R → zW (ia_P0 L xs fm) ia_nx (d + 5) 12 false cX12_readClause 8 (none) 264 [(0, .ref 41), (1, .int i1), (2, .int i2), (3, .int i3), (4, .ref 51), (5, .ref 1000103), (6, .int x6), (7, .int x7)] [] (h, t) (zQv zDr h0 t R) := by
  intro k
  induction k with
  | zero => intro x6 x7 S h hE hf; cases hf
  | succ k ih =>
    intro x6 x7 S h hE hf
    unfold f_X12_readClause_L264 at hf
    refine z_iload dX12_readClause_264 rfl ?_
    refine z_iconst (v := (-1)) dX12_readClause_266 (by decide) ?_
    by_cases c52 : x7 = (-1)
    · have hf := zif_t hf c52
      refine z_icmp_eq_t (tgt := 347) dX12_readClause_267 (by decide) c52 ?_
      exact zW.sub (hex x6 x7 S _ hE hf) [0, 1, 2, 3, 4, 5, 6, 7] rfl rfl rfl rfl
    · have hf := zif_f hf c52
      refine z_icmp_eq_f (tgt := 347) dX12_readClause_267 (by decide) c52 ?_
      refine z_aload_n dX12_readClause_270 rfl ?_
      refine z_getI dX12_readClause_271 tF_12_125 hE dr_41 rfl rfl ?_
      refine z_iconst (v := (-1)) dX12_readClause_274 (by decide) ?_
      by_cases c53 : ¬ (S.1 41 11) = (-1)
      · have hf := zif_t hf c53
        refine z_icmp_ne_t (tgt := 347) dX12_readClause_275 (by decide) c53 ?_
        exact zW.sub (hex x6 x7 S _ hE hf) [0, 1, 2, 3, 4, 5, 6, 7] rfl rfl rfl rfl
      · have hf := zif_f hf c53
        refine z_icmp_ne_f (tgt := 347) dX12_readClause_275 (by decide) c53 ?_
        refine z_iload dX12_readClause_278 rfl ?_
        refine z_iload dX12_readClause_280 rfl ?_
        obtain ⟨r55, S54, k56, hf⟩ := zb_some hf
        refine z_callSi dX12_readClause_282 tM_12_241 (by decide) mt_12015 (Nat.le_of_ble_eq_true rfl) rfl rfl (ia_oks_le hn1 rfl) (Nat.le_of_ble_eq_true rfl) (w_X12_has hn1 hn2 (d + 4) hE k56) (fun h hE => ?_)
        by_cases c57 : r55 = 0
        · have hf := zif_t hf c57
          refine z_if_eq_t (tgt := 294) dX12_readClause_285 (by decide) c57 ?_
          refine z_iload dX12_readClause_294 rfl ?_
          refine z_iconst (v := 1) dX12_readClause_296 (by decide) ?_
          refine z_iload dX12_readClause_297 rfl ?_
          refine z_ishl dX12_readClause_299 ?_
          refine z_ior dX12_readClause_300 ?_
          obtain ⟨y58, ey58, hf⟩ := zl_some hf
          refine z_topi ey58 ?_
          refine z_istore (lv' := [(6, .int y58), (0, .ref 41), (1, .int i1), (2, .int i2), (3, .int i3), (4, .ref 51), (5, .ref 1000103), (7, .int x7)]) dX12_readClause_301 (by decide) rfl ?_
          refine z_aload_n dX12_readClause_303 rfl ?_
          refine z_aload dX12_readClause_304 rfl ?_
          refine z_iload_n dX12_readClause_306 rfl ?_
          refine z_iload dX12_readClause_307 rfl ?_
          refine z_iadd dX12_readClause_309 ?_
          refine z_iload_n dX12_readClause_310 rfl ?_
          refine z_iload dX12_readClause_311 rfl ?_
          obtain ⟨r60, S59, k61, hf⟩ := zb_some hf
          refine z_callSi dX12_readClause_313 tM_12_245 (by decide) mt_12016 (Nat.le_of_ble_eq_true rfl) rfl rfl (ia_oks_le hn1 rfl) (Nat.le_of_ble_eq_true rfl) (w_X12_leastOf hn1 hn2 (d + 4) hE k61) (fun h hE => ?_)
          refine z_iload_n dX12_readClause_316 rfl ?_
          refine z_iload dX12_readClause_317 rfl ?_
          obtain ⟨r63, S62, k64, hf⟩ := zb_some hf
          refine z_callSi dX12_readClause_319 tM_12_248 (by decide) mt_12017 (Nat.le_of_ble_eq_true rfl) rfl rfl (ia_oks_le hn1 rfl) (Nat.le_of_ble_eq_true rfl) (w_X12_mostOf hn1 hn2 (d + 4) hE k64) (fun h hE => ?_)
          obtain ⟨r66, S65, k67, hf⟩ := zb_some hf
          refine z_callVv dX12_readClause_322 tM_12_251 mt_12018 (Nat.le_of_ble_eq_true rfl) rfl rfl (z_recv hE dr_41 rfl) rfl (ia_oks_le hn1 rfl) (Nat.le_of_ble_eq_true rfl) (w_X12_readItem_51 hn1 hn2 (d + 3) hE k67) (fun h hE => ?_)
          refine z_aload_n dX12_readClause_325 rfl ?_
          refine z_getI dX12_readClause_326 tF_12_125 hE dr_41 rfl rfl ?_
          refine z_iconst (v := (-1)) dX12_readClause_329 (by decide) ?_
          by_cases c68 : ¬ (S65.1 41 11) = (-1)
          · have hf := zif_t hf c68
            refine z_icmp_ne_t (tgt := 264) dX12_readClause_330 (by decide) c68 ?_
            exact zW.sub (ih y58 x7 S65 _ hE hf) [1, 2, 3, 4, 5, 6, 0, 7] rfl rfl rfl rfl
          · have hf := zif_f hf c68
            refine z_icmp_ne_f (tgt := 264) dX12_readClause_330 (by decide) c68 ?_
            refine z_aload dX12_readClause_333 rfl ?_
            refine z_aload_n dX12_readClause_335 rfl ?_
            obtain ⟨r70, S69, k71, hf⟩ := zb_some hf
            refine z_callVi dX12_readClause_336 tM_12_135 mt_12011 (Nat.le_of_ble_eq_true rfl) rfl rfl (z_recv hE dr_41 rfl) rfl (ia_oks_le hn1 rfl) (Nat.le_of_ble_eq_true rfl) (w_X12_look hn1 hn2 (d + 4) hE k71) (fun h hE => ?_)
            obtain ⟨r73, S72, k74, hf⟩ := zb_some hf
            refine z_callSi dX12_readClause_339 tM_12_237 (by decide) mt_12014 (Nat.le_of_ble_eq_true rfl) rfl rfl (ia_oks_le hn1 rfl) (Nat.le_of_ble_eq_true rfl) (w_X12_placeOf_1000103 hn1 hn2 (d + 0) hE k74) (fun h hE => ?_)
            refine z_istore (lv' := [(7, .int r73), (6, .int y58), (0, .ref 41), (1, .int i1), (2, .int i2), (3, .int i3), (4, .ref 51), (5, .ref 1000103)]) dX12_readClause_342 (by decide) rfl ?_
            refine z_goto (tgt := 264) dX12_readClause_344 (by decide) ?_
            exact zW.sub (ih y58 r73 S72 _ hE hf) [2, 3, 4, 5, 6, 7, 1, 0] rfl rfl rfl rfl
        · have hf := zif_f hf c57
          refine z_if_eq_f (tgt := 294) dX12_readClause_285 (by decide) c57 ?_
          refine z_aload_n dX12_readClause_288 rfl ?_
          obtain ⟨r76, S75, k77, hf⟩ := zb_some hf
          refine z_callVi dX12_readClause_289 tM_12_131 mt_12012 (Nat.le_of_ble_eq_true rfl) rfl rfl (z_recv hE dr_41 rfl) rfl (ia_oks_le hn1 rfl) (Nat.le_of_ble_eq_true rfl) (w_X12_fails hn1 hn2 (d + 4) hE k77) (fun h hE => ?_)
          refine z_pop dX12_readClause_292 rfl ?_
          have e_ := Option.some.inj hf
          subst e_
          exact z_vreturn dX12_readClause_293 rfl ⟨h, rfl, rfl, hE⟩
theorem w_X12_readClause_L221a {L : Nat} {xs : Nat → Int32} {fm : Bool} {h0 : Nat → va_E} {t : Nat × Nat × Nat} (hn1 : 64 ≤ t.1) (hn2 : t.1 ≤ 1000000) (d : Nat) {ex : Int32 → zS → Option (Unit × zS)} {i1 : Int32} {i2 : Int32} {i3 : Int32} {R : Unit × zS} (hex : ∀ (x6 : Int32) (S : zS) (h : Nat → va_E), zE zDr h0 S (h, t) → ex x6 S = some R → zW (ia_P0 L xs fm) ia_nx (d + 5) 12 false cX12_readClause 8 (none) 250 [(0, .ref 41), (1, .int i1), (2, .int i2), (3, .int i3), (4, .ref 51), (5, .ref 1000102), (6, .int x6)] [] (h, t) (zQv zDr h0 t R)) : ∀ (k : Nat) (x6 : Int32) (S : zS) (h : Nat → va_E), zE zDr h0 S (h, t) → f_X12_readClause_L221a ex i1 i2 i3 k x6 S = some R → zW (ia_P0 L xs fm) ia_nx (d + 5) 12 false cX12_readClause 8 (none) 221 [(0, .ref 41), (1, .int i1), (2, .int i2), (3, .int i3), (4, .ref 51), (5, .ref 1000102), (6, .int x6)] [] (h, t) (zQv zDr h0 t R) := by
  intro k
  induction k with
  | zero => intro x6 S h hE hf; cases hf
  | succ k ih =>
    intro x6 S h hE hf
    unfold f_X12_readClause_L221a at hf
    refine z_iload dX12_readClause_221 rfl ?_
    refine z_aload dX12_readClause_223 rfl ?_
    obtain ⟨r94, S93, k95, hf⟩ := zb_some hf
    refine z_callVi dX12_readClause_225 tM_12_96 mt_900003 (Nat.le_of_ble_eq_true rfl) rfl rfl (z_recvC (hp := (h, t)) (by decide) hn2 hc_1000102) rfl (ia_oks_le hn1 rfl) (Nat.le_of_ble_eq_true rfl) (w_J0_length_8abf5_1000102 hn1 hn2 (d + 3) hE k95) (fun h hE => ?_)
    by_cases c96 : r94 ≤ x6
    · have hf := zif_t hf c96
      refine z_icmp_ge_t (tgt := 250) dX12_readClause_228 (by decide) c96 ?_
      exact zW.sub (hex x6 S93 _ hE hf) [0, 1, 2, 3, 4, 5, 6] rfl rfl rfl rfl
    · have hf := zif_f hf c96
      refine z_icmp_ge_f (tgt := 250) dX12_readClause_228 (by decide) c96 ?_
      refine z_aload dX12_readClause_231 rfl ?_
      refine z_iload_n dX12_readClause_233 rfl ?_
      refine z_iload dX12_readClause_234 rfl ?_
      refine z_iadd dX12_readClause_236 ?_
      refine z_iload_n dX12_readClause_237 rfl ?_
      refine z_iload dX12_readClause_238 rfl ?_
      obtain ⟨r98, S97, k99, hf⟩ := zb_some hf
      refine z_callSi dX12_readClause_240 tM_12_233 (by decide) mt_12013 (Nat.le_of_ble_eq_true rfl) rfl rfl (ia_oks_le hn1 rfl) (Nat.le_of_ble_eq_true rfl) (w_X12_usual hn1 hn2 (d + 4) hE k99) (fun h hE => ?_)
      obtain ⟨b100, hf⟩ := zchk hf
      obtain ⟨S101, eS101, hf⟩ := zl_some hf
      refine z_iastoreL (i := (i3 + x6).toNatClampNeg) dX12_readClause_243 hE dr_51 b100 rfl (fun h hE => ?_)
      rw [← eS101] at hE
      obtain ⟨y102, ey102, hf⟩ := zl_some hf
      refine z_iincY (v := 1) (y := y102) (lv' := [(6, .int y102), (0, .ref 41), (1, .int i1), (2, .int i2), (3, .int i3), (4, .ref 51), (5, .ref 1000102)]) dX12_readClause_244 rfl (by decide) (by decide) ey102 rfl ?_
      refine z_goto (tgt := 221) dX12_readClause_247 (by decide) ?_
      exact zW.sub (ih y102 S101 _ hE hf) [1, 2, 3, 4, 5, 6, 0] rfl rfl rfl rfl
theorem w_X12_readClause_L264a {L : Nat} {xs : Nat → Int32} {fm : Bool} {h0 : Nat → va_E} {t : Nat × Nat × Nat} (hn1 : 64 ≤ t.1) (hn2 : t.1 ≤ 1000000) (d : Nat) {ex : Int32 → Int32 → zS → Option (Unit × zS)} {i1 : Int32} {i2 : Int32} {i3 : Int32} {R : Unit × zS} (hex : ∀ (x6 : Int32) (x7 : Int32) (S : zS) (h : Nat → va_E), zE zDr h0 S (h, t) → ex x6 x7 S = some R → zW (ia_P0 L xs fm) ia_nx (d + 5) 12 false cX12_readClause 8 (none) 347 [(0, .ref 41), (1, .int i1), (2, .int i2), (3, .int i3), (4, .ref 51), (5, .ref 1000102), (6, .int x6), (7, .int x7)] [] (h, t) (zQv zDr h0 t R)) : ∀ (k : Nat) (x6 : Int32) (x7 : Int32) (S : zS) (h : Nat → va_E), zE zDr h0 S (h, t) → f_X12_readClause_L264a ex i1 i2 i3 k x6 x7 S = some R → zW (ia_P0 L xs fm) ia_nx (d + 5) 12 false cX12_readClause 8 (none) 264 [(0, .ref 41), (1, .int i1), (2, .int i2), (3, .int i3), (4, .ref 51), (5, .ref 1000102), (6, .int x6), (7, .int x7)] [] (h, t) (zQv zDr h0 t R) := by
  intro k
  induction k with
  | zero => intro x6 x7 S h hE hf; cases hf
  | succ k ih =>
    intro x6 x7 S h hE hf
    unfold f_X12_readClause_L264a at hf
    refine z_iload dX12_readClause_264 rfl ?_
    refine z_iconst (v := (-1)) dX12_readClause_266 (by decide) ?_
    by_cases c111 : x7 = (-1)
    · have hf := zif_t hf c111
      refine z_icmp_eq_t (tgt := 347) dX12_readClause_267 (by decide) c111 ?_
      exact zW.sub (hex x6 x7 S _ hE hf) [0, 1, 2, 3, 4, 5, 6, 7] rfl rfl rfl rfl
    · have hf := zif_f hf c111
      refine z_icmp_eq_f (tgt := 347) dX12_readClause_267 (by decide) c111 ?_
      refine z_aload_n dX12_readClause_270 rfl ?_
      refine z_getI dX12_readClause_271 tF_12_125 hE dr_41 rfl rfl ?_
      refine z_iconst (v := (-1)) dX12_readClause_274 (by decide) ?_
      by_cases c112 : ¬ (S.1 41 11) = (-1)
      · have hf := zif_t hf c112
        refine z_icmp_ne_t (tgt := 347) dX12_readClause_275 (by decide) c112 ?_
        exact zW.sub (hex x6 x7 S _ hE hf) [0, 1, 2, 3, 4, 5, 6, 7] rfl rfl rfl rfl
      · have hf := zif_f hf c112
        refine z_icmp_ne_f (tgt := 347) dX12_readClause_275 (by decide) c112 ?_
        refine z_iload dX12_readClause_278 rfl ?_
        refine z_iload dX12_readClause_280 rfl ?_
        obtain ⟨r114, S113, k115, hf⟩ := zb_some hf
        refine z_callSi dX12_readClause_282 tM_12_241 (by decide) mt_12015 (Nat.le_of_ble_eq_true rfl) rfl rfl (ia_oks_le hn1 rfl) (Nat.le_of_ble_eq_true rfl) (w_X12_has hn1 hn2 (d + 4) hE k115) (fun h hE => ?_)
        by_cases c116 : r114 = 0
        · have hf := zif_t hf c116
          refine z_if_eq_t (tgt := 294) dX12_readClause_285 (by decide) c116 ?_
          refine z_iload dX12_readClause_294 rfl ?_
          refine z_iconst (v := 1) dX12_readClause_296 (by decide) ?_
          refine z_iload dX12_readClause_297 rfl ?_
          refine z_ishl dX12_readClause_299 ?_
          refine z_ior dX12_readClause_300 ?_
          obtain ⟨y117, ey117, hf⟩ := zl_some hf
          refine z_topi ey117 ?_
          refine z_istore (lv' := [(6, .int y117), (0, .ref 41), (1, .int i1), (2, .int i2), (3, .int i3), (4, .ref 51), (5, .ref 1000102), (7, .int x7)]) dX12_readClause_301 (by decide) rfl ?_
          refine z_aload_n dX12_readClause_303 rfl ?_
          refine z_aload dX12_readClause_304 rfl ?_
          refine z_iload_n dX12_readClause_306 rfl ?_
          refine z_iload dX12_readClause_307 rfl ?_
          refine z_iadd dX12_readClause_309 ?_
          refine z_iload_n dX12_readClause_310 rfl ?_
          refine z_iload dX12_readClause_311 rfl ?_
          obtain ⟨r119, S118, k120, hf⟩ := zb_some hf
          refine z_callSi dX12_readClause_313 tM_12_245 (by decide) mt_12016 (Nat.le_of_ble_eq_true rfl) rfl rfl (ia_oks_le hn1 rfl) (Nat.le_of_ble_eq_true rfl) (w_X12_leastOf hn1 hn2 (d + 4) hE k120) (fun h hE => ?_)
          refine z_iload_n dX12_readClause_316 rfl ?_
          refine z_iload dX12_readClause_317 rfl ?_
          obtain ⟨r122, S121, k123, hf⟩ := zb_some hf
          refine z_callSi dX12_readClause_319 tM_12_248 (by decide) mt_12017 (Nat.le_of_ble_eq_true rfl) rfl rfl (ia_oks_le hn1 rfl) (Nat.le_of_ble_eq_true rfl) (w_X12_mostOf hn1 hn2 (d + 4) hE k123) (fun h hE => ?_)
          obtain ⟨r125, S124, k126, hf⟩ := zb_some hf
          refine z_callVv dX12_readClause_322 tM_12_251 mt_12018 (Nat.le_of_ble_eq_true rfl) rfl rfl (z_recv hE dr_41 rfl) rfl (ia_oks_le hn1 rfl) (Nat.le_of_ble_eq_true rfl) (w_X12_readItem_51 hn1 hn2 (d + 3) hE k126) (fun h hE => ?_)
          refine z_aload_n dX12_readClause_325 rfl ?_
          refine z_getI dX12_readClause_326 tF_12_125 hE dr_41 rfl rfl ?_
          refine z_iconst (v := (-1)) dX12_readClause_329 (by decide) ?_
          by_cases c127 : ¬ (S124.1 41 11) = (-1)
          · have hf := zif_t hf c127
            refine z_icmp_ne_t (tgt := 264) dX12_readClause_330 (by decide) c127 ?_
            exact zW.sub (ih y117 x7 S124 _ hE hf) [1, 2, 3, 4, 5, 6, 0, 7] rfl rfl rfl rfl
          · have hf := zif_f hf c127
            refine z_icmp_ne_f (tgt := 264) dX12_readClause_330 (by decide) c127 ?_
            refine z_aload dX12_readClause_333 rfl ?_
            refine z_aload_n dX12_readClause_335 rfl ?_
            obtain ⟨r129, S128, k130, hf⟩ := zb_some hf
            refine z_callVi dX12_readClause_336 tM_12_135 mt_12011 (Nat.le_of_ble_eq_true rfl) rfl rfl (z_recv hE dr_41 rfl) rfl (ia_oks_le hn1 rfl) (Nat.le_of_ble_eq_true rfl) (w_X12_look hn1 hn2 (d + 4) hE k130) (fun h hE => ?_)
            obtain ⟨r132, S131, k133, hf⟩ := zb_some hf
            refine z_callSi dX12_readClause_339 tM_12_237 (by decide) mt_12014 (Nat.le_of_ble_eq_true rfl) rfl rfl (ia_oks_le hn1 rfl) (Nat.le_of_ble_eq_true rfl) (w_X12_placeOf_1000102 hn1 hn2 (d + 0) hE k133) (fun h hE => ?_)
            refine z_istore (lv' := [(7, .int r132), (6, .int y117), (0, .ref 41), (1, .int i1), (2, .int i2), (3, .int i3), (4, .ref 51), (5, .ref 1000102)]) dX12_readClause_342 (by decide) rfl ?_
            refine z_goto (tgt := 264) dX12_readClause_344 (by decide) ?_
            exact zW.sub (ih y117 r132 S131 _ hE hf) [2, 3, 4, 5, 6, 7, 1, 0] rfl rfl rfl rfl
        · have hf := zif_f hf c116
          refine z_if_eq_f (tgt := 294) dX12_readClause_285 (by decide) c116 ?_
          refine z_aload_n dX12_readClause_288 rfl ?_
          obtain ⟨r135, S134, k136, hf⟩ := zb_some hf
          refine z_callVi dX12_readClause_289 tM_12_131 mt_12012 (Nat.le_of_ble_eq_true rfl) rfl rfl (z_recv hE dr_41 rfl) rfl (ia_oks_le hn1 rfl) (Nat.le_of_ble_eq_true rfl) (w_X12_fails hn1 hn2 (d + 4) hE k136) (fun h hE => ?_)
          refine z_pop dX12_readClause_292 rfl ?_
          have e_ := Option.some.inj hf
          subst e_
          exact z_vreturn dX12_readClause_293 rfl ⟨h, rfl, rfl, hE⟩
theorem w_X12_readClause_L221b {L : Nat} {xs : Nat → Int32} {fm : Bool} {h0 : Nat → va_E} {t : Nat × Nat × Nat} (hn1 : 64 ≤ t.1) (hn2 : t.1 ≤ 1000000) (d : Nat) {ex : Int32 → zS → Option (Unit × zS)} {i1 : Int32} {i2 : Int32} {i3 : Int32} {R : Unit × zS} (hex : ∀ (x6 : Int32) (S : zS) (h : Nat → va_E), zE zDr h0 S (h, t) → ex x6 S = some R → zW (ia_P0 L xs fm) ia_nx (d + 5) 12 false cX12_readClause 8 (none) 250 [(0, .ref 41), (1, .int i1), (2, .int i2), (3, .int i3), (4, .ref 51), (5, .ref 1000101), (6, .int x6)] [] (h, t) (zQv zDr h0 t R)) : ∀ (k : Nat) (x6 : Int32) (S : zS) (h : Nat → va_E), zE zDr h0 S (h, t) → f_X12_readClause_L221b ex i1 i2 i3 k x6 S = some R → zW (ia_P0 L xs fm) ia_nx (d + 5) 12 false cX12_readClause 8 (none) 221 [(0, .ref 41), (1, .int i1), (2, .int i2), (3, .int i3), (4, .ref 51), (5, .ref 1000101), (6, .int x6)] [] (h, t) (zQv zDr h0 t R) := by
  intro k
  induction k with
  | zero => intro x6 S h hE hf; cases hf
  | succ k ih =>
    intro x6 S h hE hf
    unfold f_X12_readClause_L221b at hf
    refine z_iload dX12_readClause_221 rfl ?_
    refine z_aload dX12_readClause_223 rfl ?_
    obtain ⟨r153, S152, k154, hf⟩ := zb_some hf
    refine z_callVi dX12_readClause_225 tM_12_96 mt_900003 (Nat.le_of_ble_eq_true rfl) rfl rfl (z_recvC (hp := (h, t)) (by decide) hn2 hc_1000101) rfl (ia_oks_le hn1 rfl) (Nat.le_of_ble_eq_true rfl) (w_J0_length_8abf5_1000101 hn1 hn2 (d + 3) hE k154) (fun h hE => ?_)
    by_cases c155 : r153 ≤ x6
    · have hf := zif_t hf c155
      refine z_icmp_ge_t (tgt := 250) dX12_readClause_228 (by decide) c155 ?_
      exact zW.sub (hex x6 S152 _ hE hf) [0, 1, 2, 3, 4, 5, 6] rfl rfl rfl rfl
    · have hf := zif_f hf c155
      refine z_icmp_ge_f (tgt := 250) dX12_readClause_228 (by decide) c155 ?_
      refine z_aload dX12_readClause_231 rfl ?_
      refine z_iload_n dX12_readClause_233 rfl ?_
      refine z_iload dX12_readClause_234 rfl ?_
      refine z_iadd dX12_readClause_236 ?_
      refine z_iload_n dX12_readClause_237 rfl ?_
      refine z_iload dX12_readClause_238 rfl ?_
      obtain ⟨r157, S156, k158, hf⟩ := zb_some hf
      refine z_callSi dX12_readClause_240 tM_12_233 (by decide) mt_12013 (Nat.le_of_ble_eq_true rfl) rfl rfl (ia_oks_le hn1 rfl) (Nat.le_of_ble_eq_true rfl) (w_X12_usual hn1 hn2 (d + 4) hE k158) (fun h hE => ?_)
      obtain ⟨b159, hf⟩ := zchk hf
      obtain ⟨S160, eS160, hf⟩ := zl_some hf
      refine z_iastoreL (i := (i3 + x6).toNatClampNeg) dX12_readClause_243 hE dr_51 b159 rfl (fun h hE => ?_)
      rw [← eS160] at hE
      obtain ⟨y161, ey161, hf⟩ := zl_some hf
      refine z_iincY (v := 1) (y := y161) (lv' := [(6, .int y161), (0, .ref 41), (1, .int i1), (2, .int i2), (3, .int i3), (4, .ref 51), (5, .ref 1000101)]) dX12_readClause_244 rfl (by decide) (by decide) ey161 rfl ?_
      refine z_goto (tgt := 221) dX12_readClause_247 (by decide) ?_
      exact zW.sub (ih y161 S160 _ hE hf) [1, 2, 3, 4, 5, 6, 0] rfl rfl rfl rfl
theorem w_X12_readClause_L264b {L : Nat} {xs : Nat → Int32} {fm : Bool} {h0 : Nat → va_E} {t : Nat × Nat × Nat} (hn1 : 64 ≤ t.1) (hn2 : t.1 ≤ 1000000) (d : Nat) {ex : Int32 → Int32 → zS → Option (Unit × zS)} {i1 : Int32} {i2 : Int32} {i3 : Int32} {R : Unit × zS} (hex : ∀ (x6 : Int32) (x7 : Int32) (S : zS) (h : Nat → va_E), zE zDr h0 S (h, t) → ex x6 x7 S = some R → zW (ia_P0 L xs fm) ia_nx (d + 5) 12 false cX12_readClause 8 (none) 347 [(0, .ref 41), (1, .int i1), (2, .int i2), (3, .int i3), (4, .ref 51), (5, .ref 1000101), (6, .int x6), (7, .int x7)] [] (h, t) (zQv zDr h0 t R)) : ∀ (k : Nat) (x6 : Int32) (x7 : Int32) (S : zS) (h : Nat → va_E), zE zDr h0 S (h, t) → f_X12_readClause_L264b ex i1 i2 i3 k x6 x7 S = some R → zW (ia_P0 L xs fm) ia_nx (d + 5) 12 false cX12_readClause 8 (none) 264 [(0, .ref 41), (1, .int i1), (2, .int i2), (3, .int i3), (4, .ref 51), (5, .ref 1000101), (6, .int x6), (7, .int x7)] [] (h, t) (zQv zDr h0 t R) := by
  intro k
  induction k with
  | zero => intro x6 x7 S h hE hf; cases hf
  | succ k ih =>
    intro x6 x7 S h hE hf
    unfold f_X12_readClause_L264b at hf
    refine z_iload dX12_readClause_264 rfl ?_
    refine z_iconst (v := (-1)) dX12_readClause_266 (by decide) ?_
    by_cases c170 : x7 = (-1)
    · have hf := zif_t hf c170
      refine z_icmp_eq_t (tgt := 347) dX12_readClause_267 (by decide) c170 ?_
      exact zW.sub (hex x6 x7 S _ hE hf) [0, 1, 2, 3, 4, 5, 6, 7] rfl rfl rfl rfl
    · have hf := zif_f hf c170
      refine z_icmp_eq_f (tgt := 347) dX12_readClause_267 (by decide) c170 ?_
      refine z_aload_n dX12_readClause_270 rfl ?_
      refine z_getI dX12_readClause_271 tF_12_125 hE dr_41 rfl rfl ?_
      refine z_iconst (v := (-1)) dX12_readClause_274 (by decide) ?_
      by_cases c171 : ¬ (S.1 41 11) = (-1)
      · have hf := zif_t hf c171
        refine z_icmp_ne_t (tgt := 347) dX12_readClause_275 (by decide) c171 ?_
        exact zW.sub (hex x6 x7 S _ hE hf) [0, 1, 2, 3, 4, 5, 6, 7] rfl rfl rfl rfl
      · have hf := zif_f hf c171
        refine z_icmp_ne_f (tgt := 347) dX12_readClause_275 (by decide) c171 ?_
        refine z_iload dX12_readClause_278 rfl ?_
        refine z_iload dX12_readClause_280 rfl ?_
        obtain ⟨r173, S172, k174, hf⟩ := zb_some hf
        refine z_callSi dX12_readClause_282 tM_12_241 (by decide) mt_12015 (Nat.le_of_ble_eq_true rfl) rfl rfl (ia_oks_le hn1 rfl) (Nat.le_of_ble_eq_true rfl) (w_X12_has hn1 hn2 (d + 4) hE k174) (fun h hE => ?_)
        by_cases c175 : r173 = 0
        · have hf := zif_t hf c175
          refine z_if_eq_t (tgt := 294) dX12_readClause_285 (by decide) c175 ?_
          refine z_iload dX12_readClause_294 rfl ?_
          refine z_iconst (v := 1) dX12_readClause_296 (by decide) ?_
          refine z_iload dX12_readClause_297 rfl ?_
          refine z_ishl dX12_readClause_299 ?_
          refine z_ior dX12_readClause_300 ?_
          obtain ⟨y176, ey176, hf⟩ := zl_some hf
          refine z_topi ey176 ?_
          refine z_istore (lv' := [(6, .int y176), (0, .ref 41), (1, .int i1), (2, .int i2), (3, .int i3), (4, .ref 51), (5, .ref 1000101), (7, .int x7)]) dX12_readClause_301 (by decide) rfl ?_
          refine z_aload_n dX12_readClause_303 rfl ?_
          refine z_aload dX12_readClause_304 rfl ?_
          refine z_iload_n dX12_readClause_306 rfl ?_
          refine z_iload dX12_readClause_307 rfl ?_
          refine z_iadd dX12_readClause_309 ?_
          refine z_iload_n dX12_readClause_310 rfl ?_
          refine z_iload dX12_readClause_311 rfl ?_
          obtain ⟨r178, S177, k179, hf⟩ := zb_some hf
          refine z_callSi dX12_readClause_313 tM_12_245 (by decide) mt_12016 (Nat.le_of_ble_eq_true rfl) rfl rfl (ia_oks_le hn1 rfl) (Nat.le_of_ble_eq_true rfl) (w_X12_leastOf hn1 hn2 (d + 4) hE k179) (fun h hE => ?_)
          refine z_iload_n dX12_readClause_316 rfl ?_
          refine z_iload dX12_readClause_317 rfl ?_
          obtain ⟨r181, S180, k182, hf⟩ := zb_some hf
          refine z_callSi dX12_readClause_319 tM_12_248 (by decide) mt_12017 (Nat.le_of_ble_eq_true rfl) rfl rfl (ia_oks_le hn1 rfl) (Nat.le_of_ble_eq_true rfl) (w_X12_mostOf hn1 hn2 (d + 4) hE k182) (fun h hE => ?_)
          obtain ⟨r184, S183, k185, hf⟩ := zb_some hf
          refine z_callVv dX12_readClause_322 tM_12_251 mt_12018 (Nat.le_of_ble_eq_true rfl) rfl rfl (z_recv hE dr_41 rfl) rfl (ia_oks_le hn1 rfl) (Nat.le_of_ble_eq_true rfl) (w_X12_readItem_51 hn1 hn2 (d + 3) hE k185) (fun h hE => ?_)
          refine z_aload_n dX12_readClause_325 rfl ?_
          refine z_getI dX12_readClause_326 tF_12_125 hE dr_41 rfl rfl ?_
          refine z_iconst (v := (-1)) dX12_readClause_329 (by decide) ?_
          by_cases c186 : ¬ (S183.1 41 11) = (-1)
          · have hf := zif_t hf c186
            refine z_icmp_ne_t (tgt := 264) dX12_readClause_330 (by decide) c186 ?_
            exact zW.sub (ih y176 x7 S183 _ hE hf) [1, 2, 3, 4, 5, 6, 0, 7] rfl rfl rfl rfl
          · have hf := zif_f hf c186
            refine z_icmp_ne_f (tgt := 264) dX12_readClause_330 (by decide) c186 ?_
            refine z_aload dX12_readClause_333 rfl ?_
            refine z_aload_n dX12_readClause_335 rfl ?_
            obtain ⟨r188, S187, k189, hf⟩ := zb_some hf
            refine z_callVi dX12_readClause_336 tM_12_135 mt_12011 (Nat.le_of_ble_eq_true rfl) rfl rfl (z_recv hE dr_41 rfl) rfl (ia_oks_le hn1 rfl) (Nat.le_of_ble_eq_true rfl) (w_X12_look hn1 hn2 (d + 4) hE k189) (fun h hE => ?_)
            obtain ⟨r191, S190, k192, hf⟩ := zb_some hf
            refine z_callSi dX12_readClause_339 tM_12_237 (by decide) mt_12014 (Nat.le_of_ble_eq_true rfl) rfl rfl (ia_oks_le hn1 rfl) (Nat.le_of_ble_eq_true rfl) (w_X12_placeOf_1000101 hn1 hn2 (d + 0) hE k192) (fun h hE => ?_)
            refine z_istore (lv' := [(7, .int r191), (6, .int y176), (0, .ref 41), (1, .int i1), (2, .int i2), (3, .int i3), (4, .ref 51), (5, .ref 1000101)]) dX12_readClause_342 (by decide) rfl ?_
            refine z_goto (tgt := 264) dX12_readClause_344 (by decide) ?_
            exact zW.sub (ih y176 r191 S190 _ hE hf) [2, 3, 4, 5, 6, 7, 1, 0] rfl rfl rfl rfl
        · have hf := zif_f hf c175
          refine z_if_eq_f (tgt := 294) dX12_readClause_285 (by decide) c175 ?_
          refine z_aload_n dX12_readClause_288 rfl ?_
          obtain ⟨r194, S193, k195, hf⟩ := zb_some hf
          refine z_callVi dX12_readClause_289 tM_12_131 mt_12012 (Nat.le_of_ble_eq_true rfl) rfl rfl (z_recv hE dr_41 rfl) rfl (ia_oks_le hn1 rfl) (Nat.le_of_ble_eq_true rfl) (w_X12_fails hn1 hn2 (d + 4) hE k195) (fun h hE => ?_)
          refine z_pop dX12_readClause_292 rfl ?_
          have e_ := Option.some.inj hf
          subst e_
          exact z_vreturn dX12_readClause_293 rfl ⟨h, rfl, rfl, hE⟩
theorem w_X12_readClause_L221c {L : Nat} {xs : Nat → Int32} {fm : Bool} {h0 : Nat → va_E} {t : Nat × Nat × Nat} (hn1 : 64 ≤ t.1) (hn2 : t.1 ≤ 1000000) (d : Nat) {ex : Int32 → zS → Option (Unit × zS)} {i1 : Int32} {i2 : Int32} {i3 : Int32} {R : Unit × zS} (hex : ∀ (x6 : Int32) (S : zS) (h : Nat → va_E), zE zDr h0 S (h, t) → ex x6 S = some R → zW (ia_P0 L xs fm) ia_nx (d + 5) 12 false cX12_readClause 8 (none) 250 [(0, .ref 41), (1, .int i1), (2, .int i2), (3, .int i3), (4, .ref 49), (5, .ref 1000103), (6, .int x6)] [] (h, t) (zQv zDr h0 t R)) : ∀ (k : Nat) (x6 : Int32) (S : zS) (h : Nat → va_E), zE zDr h0 S (h, t) → f_X12_readClause_L221c ex i1 i2 i3 k x6 S = some R → zW (ia_P0 L xs fm) ia_nx (d + 5) 12 false cX12_readClause 8 (none) 221 [(0, .ref 41), (1, .int i1), (2, .int i2), (3, .int i3), (4, .ref 49), (5, .ref 1000103), (6, .int x6)] [] (h, t) (zQv zDr h0 t R) := by
  intro k
  induction k with
  | zero => intro x6 S h hE hf; cases hf
  | succ k ih =>
    intro x6 S h hE hf
    unfold f_X12_readClause_L221c at hf
    refine z_iload dX12_readClause_221 rfl ?_
    refine z_aload dX12_readClause_223 rfl ?_
    obtain ⟨r214, S213, k215, hf⟩ := zb_some hf
    refine z_callVi dX12_readClause_225 tM_12_96 mt_900003 (Nat.le_of_ble_eq_true rfl) rfl rfl (z_recvC (hp := (h, t)) (by decide) hn2 hc_1000103) rfl (ia_oks_le hn1 rfl) (Nat.le_of_ble_eq_true rfl) (w_J0_length_8abf5_1000103 hn1 hn2 (d + 3) hE k215) (fun h hE => ?_)
    by_cases c216 : r214 ≤ x6
    · have hf := zif_t hf c216
      refine z_icmp_ge_t (tgt := 250) dX12_readClause_228 (by decide) c216 ?_
      exact zW.sub (hex x6 S213 _ hE hf) [0, 1, 2, 3, 4, 5, 6] rfl rfl rfl rfl
    · have hf := zif_f hf c216
      refine z_icmp_ge_f (tgt := 250) dX12_readClause_228 (by decide) c216 ?_
      refine z_aload dX12_readClause_231 rfl ?_
      refine z_iload_n dX12_readClause_233 rfl ?_
      refine z_iload dX12_readClause_234 rfl ?_
      refine z_iadd dX12_readClause_236 ?_
      refine z_iload_n dX12_readClause_237 rfl ?_
      refine z_iload dX12_readClause_238 rfl ?_
      obtain ⟨r218, S217, k219, hf⟩ := zb_some hf
      refine z_callSi dX12_readClause_240 tM_12_233 (by decide) mt_12013 (Nat.le_of_ble_eq_true rfl) rfl rfl (ia_oks_le hn1 rfl) (Nat.le_of_ble_eq_true rfl) (w_X12_usual hn1 hn2 (d + 4) hE k219) (fun h hE => ?_)
      obtain ⟨b220, hf⟩ := zchk hf
      obtain ⟨S221, eS221, hf⟩ := zl_some hf
      refine z_iastoreL (i := (i3 + x6).toNatClampNeg) dX12_readClause_243 hE dr_49 b220 rfl (fun h hE => ?_)
      rw [← eS221] at hE
      obtain ⟨y222, ey222, hf⟩ := zl_some hf
      refine z_iincY (v := 1) (y := y222) (lv' := [(6, .int y222), (0, .ref 41), (1, .int i1), (2, .int i2), (3, .int i3), (4, .ref 49), (5, .ref 1000103)]) dX12_readClause_244 rfl (by decide) (by decide) ey222 rfl ?_
      refine z_goto (tgt := 221) dX12_readClause_247 (by decide) ?_
      exact zW.sub (ih y222 S221 _ hE hf) [1, 2, 3, 4, 5, 6, 0] rfl rfl rfl rfl
theorem w_X12_readClause_L264c {L : Nat} {xs : Nat → Int32} {fm : Bool} {h0 : Nat → va_E} {t : Nat × Nat × Nat} (hn1 : 64 ≤ t.1) (hn2 : t.1 ≤ 1000000) (d : Nat) {ex : Int32 → Int32 → zS → Option (Unit × zS)} {i1 : Int32} {i2 : Int32} {i3 : Int32} {R : Unit × zS} (hex : ∀ (x6 : Int32) (x7 : Int32) (S : zS) (h : Nat → va_E), zE zDr h0 S (h, t) → ex x6 x7 S = some R → zW (ia_P0 L xs fm) ia_nx (d + 5) 12 false cX12_readClause 8 (none) 347 [(0, .ref 41), (1, .int i1), (2, .int i2), (3, .int i3), (4, .ref 49), (5, .ref 1000103), (6, .int x6), (7, .int x7)] [] (h, t) (zQv zDr h0 t R)) : ∀ (k : Nat) (x6 : Int32) (x7 : Int32) (S : zS) (h : Nat → va_E), zE zDr h0 S (h, t) → f_X12_readClause_L264c ex i1 i2 i3 k x6 x7 S = some R → zW (ia_P0 L xs fm) ia_nx (d + 5) 12 false cX12_readClause 8 (none) 264 [(0, .ref 41), (1, .int i1), (2, .int i2), (3, .int i3), (4, .ref 49), (5, .ref 1000103), (6, .int x6), (7, .int x7)] [] (h, t) (zQv zDr h0 t R) := by
  intro k
  induction k with
  | zero => intro x6 x7 S h hE hf; cases hf
  | succ k ih =>
    intro x6 x7 S h hE hf
    unfold f_X12_readClause_L264c at hf
    refine z_iload dX12_readClause_264 rfl ?_
    refine z_iconst (v := (-1)) dX12_readClause_266 (by decide) ?_
    by_cases c231 : x7 = (-1)
    · have hf := zif_t hf c231
      refine z_icmp_eq_t (tgt := 347) dX12_readClause_267 (by decide) c231 ?_
      exact zW.sub (hex x6 x7 S _ hE hf) [0, 1, 2, 3, 4, 5, 6, 7] rfl rfl rfl rfl
    · have hf := zif_f hf c231
      refine z_icmp_eq_f (tgt := 347) dX12_readClause_267 (by decide) c231 ?_
      refine z_aload_n dX12_readClause_270 rfl ?_
      refine z_getI dX12_readClause_271 tF_12_125 hE dr_41 rfl rfl ?_
      refine z_iconst (v := (-1)) dX12_readClause_274 (by decide) ?_
      by_cases c232 : ¬ (S.1 41 11) = (-1)
      · have hf := zif_t hf c232
        refine z_icmp_ne_t (tgt := 347) dX12_readClause_275 (by decide) c232 ?_
        exact zW.sub (hex x6 x7 S _ hE hf) [0, 1, 2, 3, 4, 5, 6, 7] rfl rfl rfl rfl
      · have hf := zif_f hf c232
        refine z_icmp_ne_f (tgt := 347) dX12_readClause_275 (by decide) c232 ?_
        refine z_iload dX12_readClause_278 rfl ?_
        refine z_iload dX12_readClause_280 rfl ?_
        obtain ⟨r234, S233, k235, hf⟩ := zb_some hf
        refine z_callSi dX12_readClause_282 tM_12_241 (by decide) mt_12015 (Nat.le_of_ble_eq_true rfl) rfl rfl (ia_oks_le hn1 rfl) (Nat.le_of_ble_eq_true rfl) (w_X12_has hn1 hn2 (d + 4) hE k235) (fun h hE => ?_)
        by_cases c236 : r234 = 0
        · have hf := zif_t hf c236
          refine z_if_eq_t (tgt := 294) dX12_readClause_285 (by decide) c236 ?_
          refine z_iload dX12_readClause_294 rfl ?_
          refine z_iconst (v := 1) dX12_readClause_296 (by decide) ?_
          refine z_iload dX12_readClause_297 rfl ?_
          refine z_ishl dX12_readClause_299 ?_
          refine z_ior dX12_readClause_300 ?_
          obtain ⟨y237, ey237, hf⟩ := zl_some hf
          refine z_topi ey237 ?_
          refine z_istore (lv' := [(6, .int y237), (0, .ref 41), (1, .int i1), (2, .int i2), (3, .int i3), (4, .ref 49), (5, .ref 1000103), (7, .int x7)]) dX12_readClause_301 (by decide) rfl ?_
          refine z_aload_n dX12_readClause_303 rfl ?_
          refine z_aload dX12_readClause_304 rfl ?_
          refine z_iload_n dX12_readClause_306 rfl ?_
          refine z_iload dX12_readClause_307 rfl ?_
          refine z_iadd dX12_readClause_309 ?_
          refine z_iload_n dX12_readClause_310 rfl ?_
          refine z_iload dX12_readClause_311 rfl ?_
          obtain ⟨r239, S238, k240, hf⟩ := zb_some hf
          refine z_callSi dX12_readClause_313 tM_12_245 (by decide) mt_12016 (Nat.le_of_ble_eq_true rfl) rfl rfl (ia_oks_le hn1 rfl) (Nat.le_of_ble_eq_true rfl) (w_X12_leastOf hn1 hn2 (d + 4) hE k240) (fun h hE => ?_)
          refine z_iload_n dX12_readClause_316 rfl ?_
          refine z_iload dX12_readClause_317 rfl ?_
          obtain ⟨r242, S241, k243, hf⟩ := zb_some hf
          refine z_callSi dX12_readClause_319 tM_12_248 (by decide) mt_12017 (Nat.le_of_ble_eq_true rfl) rfl rfl (ia_oks_le hn1 rfl) (Nat.le_of_ble_eq_true rfl) (w_X12_mostOf hn1 hn2 (d + 4) hE k243) (fun h hE => ?_)
          obtain ⟨r245, S244, k246, hf⟩ := zb_some hf
          refine z_callVv dX12_readClause_322 tM_12_251 mt_12018 (Nat.le_of_ble_eq_true rfl) rfl rfl (z_recv hE dr_41 rfl) rfl (ia_oks_le hn1 rfl) (Nat.le_of_ble_eq_true rfl) (w_X12_readItem_49 hn1 hn2 (d + 3) hE k246) (fun h hE => ?_)
          refine z_aload_n dX12_readClause_325 rfl ?_
          refine z_getI dX12_readClause_326 tF_12_125 hE dr_41 rfl rfl ?_
          refine z_iconst (v := (-1)) dX12_readClause_329 (by decide) ?_
          by_cases c247 : ¬ (S244.1 41 11) = (-1)
          · have hf := zif_t hf c247
            refine z_icmp_ne_t (tgt := 264) dX12_readClause_330 (by decide) c247 ?_
            exact zW.sub (ih y237 x7 S244 _ hE hf) [1, 2, 3, 4, 5, 6, 0, 7] rfl rfl rfl rfl
          · have hf := zif_f hf c247
            refine z_icmp_ne_f (tgt := 264) dX12_readClause_330 (by decide) c247 ?_
            refine z_aload dX12_readClause_333 rfl ?_
            refine z_aload_n dX12_readClause_335 rfl ?_
            obtain ⟨r249, S248, k250, hf⟩ := zb_some hf
            refine z_callVi dX12_readClause_336 tM_12_135 mt_12011 (Nat.le_of_ble_eq_true rfl) rfl rfl (z_recv hE dr_41 rfl) rfl (ia_oks_le hn1 rfl) (Nat.le_of_ble_eq_true rfl) (w_X12_look hn1 hn2 (d + 4) hE k250) (fun h hE => ?_)
            obtain ⟨r252, S251, k253, hf⟩ := zb_some hf
            refine z_callSi dX12_readClause_339 tM_12_237 (by decide) mt_12014 (Nat.le_of_ble_eq_true rfl) rfl rfl (ia_oks_le hn1 rfl) (Nat.le_of_ble_eq_true rfl) (w_X12_placeOf_1000103 hn1 hn2 (d + 0) hE k253) (fun h hE => ?_)
            refine z_istore (lv' := [(7, .int r252), (6, .int y237), (0, .ref 41), (1, .int i1), (2, .int i2), (3, .int i3), (4, .ref 49), (5, .ref 1000103)]) dX12_readClause_342 (by decide) rfl ?_
            refine z_goto (tgt := 264) dX12_readClause_344 (by decide) ?_
            exact zW.sub (ih y237 r252 S251 _ hE hf) [2, 3, 4, 5, 6, 7, 1, 0] rfl rfl rfl rfl
        · have hf := zif_f hf c236
          refine z_if_eq_f (tgt := 294) dX12_readClause_285 (by decide) c236 ?_
          refine z_aload_n dX12_readClause_288 rfl ?_
          obtain ⟨r255, S254, k256, hf⟩ := zb_some hf
          refine z_callVi dX12_readClause_289 tM_12_131 mt_12012 (Nat.le_of_ble_eq_true rfl) rfl rfl (z_recv hE dr_41 rfl) rfl (ia_oks_le hn1 rfl) (Nat.le_of_ble_eq_true rfl) (w_X12_fails hn1 hn2 (d + 4) hE k256) (fun h hE => ?_)
          refine z_pop dX12_readClause_292 rfl ?_
          have e_ := Option.some.inj hf
          subst e_
          exact z_vreturn dX12_readClause_293 rfl ⟨h, rfl, rfl, hE⟩
theorem w_X12_readClause_L221d {L : Nat} {xs : Nat → Int32} {fm : Bool} {h0 : Nat → va_E} {t : Nat × Nat × Nat} (hn1 : 64 ≤ t.1) (hn2 : t.1 ≤ 1000000) (d : Nat) {ex : Int32 → zS → Option (Unit × zS)} {i1 : Int32} {i2 : Int32} {i3 : Int32} {R : Unit × zS} (hex : ∀ (x6 : Int32) (S : zS) (h : Nat → va_E), zE zDr h0 S (h, t) → ex x6 S = some R → zW (ia_P0 L xs fm) ia_nx (d + 5) 12 false cX12_readClause 8 (none) 250 [(0, .ref 41), (1, .int i1), (2, .int i2), (3, .int i3), (4, .ref 49), (5, .ref 1000102), (6, .int x6)] [] (h, t) (zQv zDr h0 t R)) : ∀ (k : Nat) (x6 : Int32) (S : zS) (h : Nat → va_E), zE zDr h0 S (h, t) → f_X12_readClause_L221d ex i1 i2 i3 k x6 S = some R → zW (ia_P0 L xs fm) ia_nx (d + 5) 12 false cX12_readClause 8 (none) 221 [(0, .ref 41), (1, .int i1), (2, .int i2), (3, .int i3), (4, .ref 49), (5, .ref 1000102), (6, .int x6)] [] (h, t) (zQv zDr h0 t R) := by
  intro k
  induction k with
  | zero => intro x6 S h hE hf; cases hf
  | succ k ih =>
    intro x6 S h hE hf
    unfold f_X12_readClause_L221d at hf
    refine z_iload dX12_readClause_221 rfl ?_
    refine z_aload dX12_readClause_223 rfl ?_
    obtain ⟨r273, S272, k274, hf⟩ := zb_some hf
    refine z_callVi dX12_readClause_225 tM_12_96 mt_900003 (Nat.le_of_ble_eq_true rfl) rfl rfl (z_recvC (hp := (h, t)) (by decide) hn2 hc_1000102) rfl (ia_oks_le hn1 rfl) (Nat.le_of_ble_eq_true rfl) (w_J0_length_8abf5_1000102 hn1 hn2 (d + 3) hE k274) (fun h hE => ?_)
    by_cases c275 : r273 ≤ x6
    · have hf := zif_t hf c275
      refine z_icmp_ge_t (tgt := 250) dX12_readClause_228 (by decide) c275 ?_
      exact zW.sub (hex x6 S272 _ hE hf) [0, 1, 2, 3, 4, 5, 6] rfl rfl rfl rfl
    · have hf := zif_f hf c275
      refine z_icmp_ge_f (tgt := 250) dX12_readClause_228 (by decide) c275 ?_
      refine z_aload dX12_readClause_231 rfl ?_
      refine z_iload_n dX12_readClause_233 rfl ?_
      refine z_iload dX12_readClause_234 rfl ?_
      refine z_iadd dX12_readClause_236 ?_
      refine z_iload_n dX12_readClause_237 rfl ?_
      refine z_iload dX12_readClause_238 rfl ?_
      obtain ⟨r277, S276, k278, hf⟩ := zb_some hf
      refine z_callSi dX12_readClause_240 tM_12_233 (by decide) mt_12013 (Nat.le_of_ble_eq_true rfl) rfl rfl (ia_oks_le hn1 rfl) (Nat.le_of_ble_eq_true rfl) (w_X12_usual hn1 hn2 (d + 4) hE k278) (fun h hE => ?_)
      obtain ⟨b279, hf⟩ := zchk hf
      obtain ⟨S280, eS280, hf⟩ := zl_some hf
      refine z_iastoreL (i := (i3 + x6).toNatClampNeg) dX12_readClause_243 hE dr_49 b279 rfl (fun h hE => ?_)
      rw [← eS280] at hE
      obtain ⟨y281, ey281, hf⟩ := zl_some hf
      refine z_iincY (v := 1) (y := y281) (lv' := [(6, .int y281), (0, .ref 41), (1, .int i1), (2, .int i2), (3, .int i3), (4, .ref 49), (5, .ref 1000102)]) dX12_readClause_244 rfl (by decide) (by decide) ey281 rfl ?_
      refine z_goto (tgt := 221) dX12_readClause_247 (by decide) ?_
      exact zW.sub (ih y281 S280 _ hE hf) [1, 2, 3, 4, 5, 6, 0] rfl rfl rfl rfl
theorem w_X12_readClause_L264d {L : Nat} {xs : Nat → Int32} {fm : Bool} {h0 : Nat → va_E} {t : Nat × Nat × Nat} (hn1 : 64 ≤ t.1) (hn2 : t.1 ≤ 1000000) (d : Nat) {ex : Int32 → Int32 → zS → Option (Unit × zS)} {i1 : Int32} {i2 : Int32} {i3 : Int32} {R : Unit × zS} (hex : ∀ (x6 : Int32) (x7 : Int32) (S : zS) (h : Nat → va_E), zE zDr h0 S (h, t) → ex x6 x7 S = some R → zW (ia_P0 L xs fm) ia_nx (d + 5) 12 false cX12_readClause 8 (none) 347 [(0, .ref 41), (1, .int i1), (2, .int i2), (3, .int i3), (4, .ref 49), (5, .ref 1000102), (6, .int x6), (7, .int x7)] [] (h, t) (zQv zDr h0 t R)) : ∀ (k : Nat) (x6 : Int32) (x7 : Int32) (S : zS) (h : Nat → va_E), zE zDr h0 S (h, t) → f_X12_readClause_L264d ex i1 i2 i3 k x6 x7 S = some R → zW (ia_P0 L xs fm) ia_nx (d + 5) 12 false cX12_readClause 8 (none) 264 [(0, .ref 41), (1, .int i1), (2, .int i2), (3, .int i3), (4, .ref 49), (5, .ref 1000102), (6, .int x6), (7, .int x7)] [] (h, t) (zQv zDr h0 t R) := by
  intro k
  induction k with
  | zero => intro x6 x7 S h hE hf; cases hf
  | succ k ih =>
    intro x6 x7 S h hE hf
    unfold f_X12_readClause_L264d at hf
    refine z_iload dX12_readClause_264 rfl ?_
    refine z_iconst (v := (-1)) dX12_readClause_266 (by decide) ?_
    by_cases c290 : x7 = (-1)
    · have hf := zif_t hf c290
      refine z_icmp_eq_t (tgt := 347) dX12_readClause_267 (by decide) c290 ?_
      exact zW.sub (hex x6 x7 S _ hE hf) [0, 1, 2, 3, 4, 5, 6, 7] rfl rfl rfl rfl
    · have hf := zif_f hf c290
      refine z_icmp_eq_f (tgt := 347) dX12_readClause_267 (by decide) c290 ?_
      refine z_aload_n dX12_readClause_270 rfl ?_
      refine z_getI dX12_readClause_271 tF_12_125 hE dr_41 rfl rfl ?_
      refine z_iconst (v := (-1)) dX12_readClause_274 (by decide) ?_
      by_cases c291 : ¬ (S.1 41 11) = (-1)
      · have hf := zif_t hf c291
        refine z_icmp_ne_t (tgt := 347) dX12_readClause_275 (by decide) c291 ?_
        exact zW.sub (hex x6 x7 S _ hE hf) [0, 1, 2, 3, 4, 5, 6, 7] rfl rfl rfl rfl
      · have hf := zif_f hf c291
        refine z_icmp_ne_f (tgt := 347) dX12_readClause_275 (by decide) c291 ?_
        refine z_iload dX12_readClause_278 rfl ?_
        refine z_iload dX12_readClause_280 rfl ?_
        obtain ⟨r293, S292, k294, hf⟩ := zb_some hf
        refine z_callSi dX12_readClause_282 tM_12_241 (by decide) mt_12015 (Nat.le_of_ble_eq_true rfl) rfl rfl (ia_oks_le hn1 rfl) (Nat.le_of_ble_eq_true rfl) (w_X12_has hn1 hn2 (d + 4) hE k294) (fun h hE => ?_)
        by_cases c295 : r293 = 0
        · have hf := zif_t hf c295
          refine z_if_eq_t (tgt := 294) dX12_readClause_285 (by decide) c295 ?_
          refine z_iload dX12_readClause_294 rfl ?_
          refine z_iconst (v := 1) dX12_readClause_296 (by decide) ?_
          refine z_iload dX12_readClause_297 rfl ?_
          refine z_ishl dX12_readClause_299 ?_
          refine z_ior dX12_readClause_300 ?_
          obtain ⟨y296, ey296, hf⟩ := zl_some hf
          refine z_topi ey296 ?_
          refine z_istore (lv' := [(6, .int y296), (0, .ref 41), (1, .int i1), (2, .int i2), (3, .int i3), (4, .ref 49), (5, .ref 1000102), (7, .int x7)]) dX12_readClause_301 (by decide) rfl ?_
          refine z_aload_n dX12_readClause_303 rfl ?_
          refine z_aload dX12_readClause_304 rfl ?_
          refine z_iload_n dX12_readClause_306 rfl ?_
          refine z_iload dX12_readClause_307 rfl ?_
          refine z_iadd dX12_readClause_309 ?_
          refine z_iload_n dX12_readClause_310 rfl ?_
          refine z_iload dX12_readClause_311 rfl ?_
          obtain ⟨r298, S297, k299, hf⟩ := zb_some hf
          refine z_callSi dX12_readClause_313 tM_12_245 (by decide) mt_12016 (Nat.le_of_ble_eq_true rfl) rfl rfl (ia_oks_le hn1 rfl) (Nat.le_of_ble_eq_true rfl) (w_X12_leastOf hn1 hn2 (d + 4) hE k299) (fun h hE => ?_)
          refine z_iload_n dX12_readClause_316 rfl ?_
          refine z_iload dX12_readClause_317 rfl ?_
          obtain ⟨r301, S300, k302, hf⟩ := zb_some hf
          refine z_callSi dX12_readClause_319 tM_12_248 (by decide) mt_12017 (Nat.le_of_ble_eq_true rfl) rfl rfl (ia_oks_le hn1 rfl) (Nat.le_of_ble_eq_true rfl) (w_X12_mostOf hn1 hn2 (d + 4) hE k302) (fun h hE => ?_)
          obtain ⟨r304, S303, k305, hf⟩ := zb_some hf
          refine z_callVv dX12_readClause_322 tM_12_251 mt_12018 (Nat.le_of_ble_eq_true rfl) rfl rfl (z_recv hE dr_41 rfl) rfl (ia_oks_le hn1 rfl) (Nat.le_of_ble_eq_true rfl) (w_X12_readItem_49 hn1 hn2 (d + 3) hE k305) (fun h hE => ?_)
          refine z_aload_n dX12_readClause_325 rfl ?_
          refine z_getI dX12_readClause_326 tF_12_125 hE dr_41 rfl rfl ?_
          refine z_iconst (v := (-1)) dX12_readClause_329 (by decide) ?_
          by_cases c306 : ¬ (S303.1 41 11) = (-1)
          · have hf := zif_t hf c306
            refine z_icmp_ne_t (tgt := 264) dX12_readClause_330 (by decide) c306 ?_
            exact zW.sub (ih y296 x7 S303 _ hE hf) [1, 2, 3, 4, 5, 6, 0, 7] rfl rfl rfl rfl
          · have hf := zif_f hf c306
            refine z_icmp_ne_f (tgt := 264) dX12_readClause_330 (by decide) c306 ?_
            refine z_aload dX12_readClause_333 rfl ?_
            refine z_aload_n dX12_readClause_335 rfl ?_
            obtain ⟨r308, S307, k309, hf⟩ := zb_some hf
            refine z_callVi dX12_readClause_336 tM_12_135 mt_12011 (Nat.le_of_ble_eq_true rfl) rfl rfl (z_recv hE dr_41 rfl) rfl (ia_oks_le hn1 rfl) (Nat.le_of_ble_eq_true rfl) (w_X12_look hn1 hn2 (d + 4) hE k309) (fun h hE => ?_)
            obtain ⟨r311, S310, k312, hf⟩ := zb_some hf
            refine z_callSi dX12_readClause_339 tM_12_237 (by decide) mt_12014 (Nat.le_of_ble_eq_true rfl) rfl rfl (ia_oks_le hn1 rfl) (Nat.le_of_ble_eq_true rfl) (w_X12_placeOf_1000102 hn1 hn2 (d + 0) hE k312) (fun h hE => ?_)
            refine z_istore (lv' := [(7, .int r311), (6, .int y296), (0, .ref 41), (1, .int i1), (2, .int i2), (3, .int i3), (4, .ref 49), (5, .ref 1000102)]) dX12_readClause_342 (by decide) rfl ?_
            refine z_goto (tgt := 264) dX12_readClause_344 (by decide) ?_
            exact zW.sub (ih y296 r311 S310 _ hE hf) [2, 3, 4, 5, 6, 7, 1, 0] rfl rfl rfl rfl
        · have hf := zif_f hf c295
          refine z_if_eq_f (tgt := 294) dX12_readClause_285 (by decide) c295 ?_
          refine z_aload_n dX12_readClause_288 rfl ?_
          obtain ⟨r314, S313, k315, hf⟩ := zb_some hf
          refine z_callVi dX12_readClause_289 tM_12_131 mt_12012 (Nat.le_of_ble_eq_true rfl) rfl rfl (z_recv hE dr_41 rfl) rfl (ia_oks_le hn1 rfl) (Nat.le_of_ble_eq_true rfl) (w_X12_fails hn1 hn2 (d + 4) hE k315) (fun h hE => ?_)
          refine z_pop dX12_readClause_292 rfl ?_
          have e_ := Option.some.inj hf
          subst e_
          exact z_vreturn dX12_readClause_293 rfl ⟨h, rfl, rfl, hE⟩
theorem w_X12_readClause_L221e {L : Nat} {xs : Nat → Int32} {fm : Bool} {h0 : Nat → va_E} {t : Nat × Nat × Nat} (hn1 : 64 ≤ t.1) (hn2 : t.1 ≤ 1000000) (d : Nat) {ex : Int32 → zS → Option (Unit × zS)} {i1 : Int32} {i2 : Int32} {i3 : Int32} {R : Unit × zS} (hex : ∀ (x6 : Int32) (S : zS) (h : Nat → va_E), zE zDr h0 S (h, t) → ex x6 S = some R → zW (ia_P0 L xs fm) ia_nx (d + 5) 12 false cX12_readClause 8 (none) 250 [(0, .ref 41), (1, .int i1), (2, .int i2), (3, .int i3), (4, .ref 49), (5, .ref 1000101), (6, .int x6)] [] (h, t) (zQv zDr h0 t R)) : ∀ (k : Nat) (x6 : Int32) (S : zS) (h : Nat → va_E), zE zDr h0 S (h, t) → f_X12_readClause_L221e ex i1 i2 i3 k x6 S = some R → zW (ia_P0 L xs fm) ia_nx (d + 5) 12 false cX12_readClause 8 (none) 221 [(0, .ref 41), (1, .int i1), (2, .int i2), (3, .int i3), (4, .ref 49), (5, .ref 1000101), (6, .int x6)] [] (h, t) (zQv zDr h0 t R) := by
  intro k
  induction k with
  | zero => intro x6 S h hE hf; cases hf
  | succ k ih =>
    intro x6 S h hE hf
    unfold f_X12_readClause_L221e at hf
    refine z_iload dX12_readClause_221 rfl ?_
    refine z_aload dX12_readClause_223 rfl ?_
    obtain ⟨r332, S331, k333, hf⟩ := zb_some hf
    refine z_callVi dX12_readClause_225 tM_12_96 mt_900003 (Nat.le_of_ble_eq_true rfl) rfl rfl (z_recvC (hp := (h, t)) (by decide) hn2 hc_1000101) rfl (ia_oks_le hn1 rfl) (Nat.le_of_ble_eq_true rfl) (w_J0_length_8abf5_1000101 hn1 hn2 (d + 3) hE k333) (fun h hE => ?_)
    by_cases c334 : r332 ≤ x6
    · have hf := zif_t hf c334
      refine z_icmp_ge_t (tgt := 250) dX12_readClause_228 (by decide) c334 ?_
      exact zW.sub (hex x6 S331 _ hE hf) [0, 1, 2, 3, 4, 5, 6] rfl rfl rfl rfl
    · have hf := zif_f hf c334
      refine z_icmp_ge_f (tgt := 250) dX12_readClause_228 (by decide) c334 ?_
      refine z_aload dX12_readClause_231 rfl ?_
      refine z_iload_n dX12_readClause_233 rfl ?_
      refine z_iload dX12_readClause_234 rfl ?_
      refine z_iadd dX12_readClause_236 ?_
      refine z_iload_n dX12_readClause_237 rfl ?_
      refine z_iload dX12_readClause_238 rfl ?_
      obtain ⟨r336, S335, k337, hf⟩ := zb_some hf
      refine z_callSi dX12_readClause_240 tM_12_233 (by decide) mt_12013 (Nat.le_of_ble_eq_true rfl) rfl rfl (ia_oks_le hn1 rfl) (Nat.le_of_ble_eq_true rfl) (w_X12_usual hn1 hn2 (d + 4) hE k337) (fun h hE => ?_)
      obtain ⟨b338, hf⟩ := zchk hf
      obtain ⟨S339, eS339, hf⟩ := zl_some hf
      refine z_iastoreL (i := (i3 + x6).toNatClampNeg) dX12_readClause_243 hE dr_49 b338 rfl (fun h hE => ?_)
      rw [← eS339] at hE
      obtain ⟨y340, ey340, hf⟩ := zl_some hf
      refine z_iincY (v := 1) (y := y340) (lv' := [(6, .int y340), (0, .ref 41), (1, .int i1), (2, .int i2), (3, .int i3), (4, .ref 49), (5, .ref 1000101)]) dX12_readClause_244 rfl (by decide) (by decide) ey340 rfl ?_
      refine z_goto (tgt := 221) dX12_readClause_247 (by decide) ?_
      exact zW.sub (ih y340 S339 _ hE hf) [1, 2, 3, 4, 5, 6, 0] rfl rfl rfl rfl
theorem w_X12_readClause_L264e {L : Nat} {xs : Nat → Int32} {fm : Bool} {h0 : Nat → va_E} {t : Nat × Nat × Nat} (hn1 : 64 ≤ t.1) (hn2 : t.1 ≤ 1000000) (d : Nat) {ex : Int32 → Int32 → zS → Option (Unit × zS)} {i1 : Int32} {i2 : Int32} {i3 : Int32} {R : Unit × zS} (hex : ∀ (x6 : Int32) (x7 : Int32) (S : zS) (h : Nat → va_E), zE zDr h0 S (h, t) → ex x6 x7 S = some R → zW (ia_P0 L xs fm) ia_nx (d + 5) 12 false cX12_readClause 8 (none) 347 [(0, .ref 41), (1, .int i1), (2, .int i2), (3, .int i3), (4, .ref 49), (5, .ref 1000101), (6, .int x6), (7, .int x7)] [] (h, t) (zQv zDr h0 t R)) : ∀ (k : Nat) (x6 : Int32) (x7 : Int32) (S : zS) (h : Nat → va_E), zE zDr h0 S (h, t) → f_X12_readClause_L264e ex i1 i2 i3 k x6 x7 S = some R → zW (ia_P0 L xs fm) ia_nx (d + 5) 12 false cX12_readClause 8 (none) 264 [(0, .ref 41), (1, .int i1), (2, .int i2), (3, .int i3), (4, .ref 49), (5, .ref 1000101), (6, .int x6), (7, .int x7)] [] (h, t) (zQv zDr h0 t R) := by
  intro k
  induction k with
  | zero => intro x6 x7 S h hE hf; cases hf
  | succ k ih =>
    intro x6 x7 S h hE hf
    unfold f_X12_readClause_L264e at hf
    refine z_iload dX12_readClause_264 rfl ?_
    refine z_iconst (v := (-1)) dX12_readClause_266 (by decide) ?_
    by_cases c349 : x7 = (-1)
    · have hf := zif_t hf c349
      refine z_icmp_eq_t (tgt := 347) dX12_readClause_267 (by decide) c349 ?_
      exact zW.sub (hex x6 x7 S _ hE hf) [0, 1, 2, 3, 4, 5, 6, 7] rfl rfl rfl rfl
    · have hf := zif_f hf c349
      refine z_icmp_eq_f (tgt := 347) dX12_readClause_267 (by decide) c349 ?_
      refine z_aload_n dX12_readClause_270 rfl ?_
      refine z_getI dX12_readClause_271 tF_12_125 hE dr_41 rfl rfl ?_
      refine z_iconst (v := (-1)) dX12_readClause_274 (by decide) ?_
      by_cases c350 : ¬ (S.1 41 11) = (-1)
      · have hf := zif_t hf c350
        refine z_icmp_ne_t (tgt := 347) dX12_readClause_275 (by decide) c350 ?_
        exact zW.sub (hex x6 x7 S _ hE hf) [0, 1, 2, 3, 4, 5, 6, 7] rfl rfl rfl rfl
      · have hf := zif_f hf c350
        refine z_icmp_ne_f (tgt := 347) dX12_readClause_275 (by decide) c350 ?_
        refine z_iload dX12_readClause_278 rfl ?_
        refine z_iload dX12_readClause_280 rfl ?_
        obtain ⟨r352, S351, k353, hf⟩ := zb_some hf
        refine z_callSi dX12_readClause_282 tM_12_241 (by decide) mt_12015 (Nat.le_of_ble_eq_true rfl) rfl rfl (ia_oks_le hn1 rfl) (Nat.le_of_ble_eq_true rfl) (w_X12_has hn1 hn2 (d + 4) hE k353) (fun h hE => ?_)
        by_cases c354 : r352 = 0
        · have hf := zif_t hf c354
          refine z_if_eq_t (tgt := 294) dX12_readClause_285 (by decide) c354 ?_
          refine z_iload dX12_readClause_294 rfl ?_
          refine z_iconst (v := 1) dX12_readClause_296 (by decide) ?_
          refine z_iload dX12_readClause_297 rfl ?_
          refine z_ishl dX12_readClause_299 ?_
          refine z_ior dX12_readClause_300 ?_
          obtain ⟨y355, ey355, hf⟩ := zl_some hf
          refine z_topi ey355 ?_
          refine z_istore (lv' := [(6, .int y355), (0, .ref 41), (1, .int i1), (2, .int i2), (3, .int i3), (4, .ref 49), (5, .ref 1000101), (7, .int x7)]) dX12_readClause_301 (by decide) rfl ?_
          refine z_aload_n dX12_readClause_303 rfl ?_
          refine z_aload dX12_readClause_304 rfl ?_
          refine z_iload_n dX12_readClause_306 rfl ?_
          refine z_iload dX12_readClause_307 rfl ?_
          refine z_iadd dX12_readClause_309 ?_
          refine z_iload_n dX12_readClause_310 rfl ?_
          refine z_iload dX12_readClause_311 rfl ?_
          obtain ⟨r357, S356, k358, hf⟩ := zb_some hf
          refine z_callSi dX12_readClause_313 tM_12_245 (by decide) mt_12016 (Nat.le_of_ble_eq_true rfl) rfl rfl (ia_oks_le hn1 rfl) (Nat.le_of_ble_eq_true rfl) (w_X12_leastOf hn1 hn2 (d + 4) hE k358) (fun h hE => ?_)
          refine z_iload_n dX12_readClause_316 rfl ?_
          refine z_iload dX12_readClause_317 rfl ?_
          obtain ⟨r360, S359, k361, hf⟩ := zb_some hf
          refine z_callSi dX12_readClause_319 tM_12_248 (by decide) mt_12017 (Nat.le_of_ble_eq_true rfl) rfl rfl (ia_oks_le hn1 rfl) (Nat.le_of_ble_eq_true rfl) (w_X12_mostOf hn1 hn2 (d + 4) hE k361) (fun h hE => ?_)
          obtain ⟨r363, S362, k364, hf⟩ := zb_some hf
          refine z_callVv dX12_readClause_322 tM_12_251 mt_12018 (Nat.le_of_ble_eq_true rfl) rfl rfl (z_recv hE dr_41 rfl) rfl (ia_oks_le hn1 rfl) (Nat.le_of_ble_eq_true rfl) (w_X12_readItem_49 hn1 hn2 (d + 3) hE k364) (fun h hE => ?_)
          refine z_aload_n dX12_readClause_325 rfl ?_
          refine z_getI dX12_readClause_326 tF_12_125 hE dr_41 rfl rfl ?_
          refine z_iconst (v := (-1)) dX12_readClause_329 (by decide) ?_
          by_cases c365 : ¬ (S362.1 41 11) = (-1)
          · have hf := zif_t hf c365
            refine z_icmp_ne_t (tgt := 264) dX12_readClause_330 (by decide) c365 ?_
            exact zW.sub (ih y355 x7 S362 _ hE hf) [1, 2, 3, 4, 5, 6, 0, 7] rfl rfl rfl rfl
          · have hf := zif_f hf c365
            refine z_icmp_ne_f (tgt := 264) dX12_readClause_330 (by decide) c365 ?_
            refine z_aload dX12_readClause_333 rfl ?_
            refine z_aload_n dX12_readClause_335 rfl ?_
            obtain ⟨r367, S366, k368, hf⟩ := zb_some hf
            refine z_callVi dX12_readClause_336 tM_12_135 mt_12011 (Nat.le_of_ble_eq_true rfl) rfl rfl (z_recv hE dr_41 rfl) rfl (ia_oks_le hn1 rfl) (Nat.le_of_ble_eq_true rfl) (w_X12_look hn1 hn2 (d + 4) hE k368) (fun h hE => ?_)
            obtain ⟨r370, S369, k371, hf⟩ := zb_some hf
            refine z_callSi dX12_readClause_339 tM_12_237 (by decide) mt_12014 (Nat.le_of_ble_eq_true rfl) rfl rfl (ia_oks_le hn1 rfl) (Nat.le_of_ble_eq_true rfl) (w_X12_placeOf_1000101 hn1 hn2 (d + 0) hE k371) (fun h hE => ?_)
            refine z_istore (lv' := [(7, .int r370), (6, .int y355), (0, .ref 41), (1, .int i1), (2, .int i2), (3, .int i3), (4, .ref 49), (5, .ref 1000101)]) dX12_readClause_342 (by decide) rfl ?_
            refine z_goto (tgt := 264) dX12_readClause_344 (by decide) ?_
            exact zW.sub (ih y355 r370 S369 _ hE hf) [2, 3, 4, 5, 6, 7, 1, 0] rfl rfl rfl rfl
        · have hf := zif_f hf c354
          refine z_if_eq_f (tgt := 294) dX12_readClause_285 (by decide) c354 ?_
          refine z_aload_n dX12_readClause_288 rfl ?_
          obtain ⟨r373, S372, k374, hf⟩ := zb_some hf
          refine z_callVi dX12_readClause_289 tM_12_131 mt_12012 (Nat.le_of_ble_eq_true rfl) rfl rfl (z_recv hE dr_41 rfl) rfl (ia_oks_le hn1 rfl) (Nat.le_of_ble_eq_true rfl) (w_X12_fails hn1 hn2 (d + 4) hE k374) (fun h hE => ?_)
          refine z_pop dX12_readClause_292 rfl ?_
          have e_ := Option.some.inj hf
          subst e_
          exact z_vreturn dX12_readClause_293 rfl ⟨h, rfl, rfl, hE⟩
theorem w_X12_readClause_L221f {L : Nat} {xs : Nat → Int32} {fm : Bool} {h0 : Nat → va_E} {t : Nat × Nat × Nat} (hn1 : 64 ≤ t.1) (hn2 : t.1 ≤ 1000000) (d : Nat) {ex : Int32 → zS → Option (Unit × zS)} {i1 : Int32} {i2 : Int32} {i3 : Int32} {R : Unit × zS} (hex : ∀ (x6 : Int32) (S : zS) (h : Nat → va_E), zE zDr h0 S (h, t) → ex x6 S = some R → zW (ia_P0 L xs fm) ia_nx (d + 5) 12 false cX12_readClause 8 (none) 250 [(0, .ref 41), (1, .int i1), (2, .int i2), (3, .int i3), (4, .ref 47), (5, .ref 1000103), (6, .int x6)] [] (h, t) (zQv zDr h0 t R)) : ∀ (k : Nat) (x6 : Int32) (S : zS) (h : Nat → va_E), zE zDr h0 S (h, t) → f_X12_readClause_L221f ex i1 i2 i3 k x6 S = some R → zW (ia_P0 L xs fm) ia_nx (d + 5) 12 false cX12_readClause 8 (none) 221 [(0, .ref 41), (1, .int i1), (2, .int i2), (3, .int i3), (4, .ref 47), (5, .ref 1000103), (6, .int x6)] [] (h, t) (zQv zDr h0 t R) := by
  intro k
  induction k with
  | zero => intro x6 S h hE hf; cases hf
  | succ k ih =>
    intro x6 S h hE hf
    unfold f_X12_readClause_L221f at hf
    refine z_iload dX12_readClause_221 rfl ?_
    refine z_aload dX12_readClause_223 rfl ?_
    obtain ⟨r393, S392, k394, hf⟩ := zb_some hf
    refine z_callVi dX12_readClause_225 tM_12_96 mt_900003 (Nat.le_of_ble_eq_true rfl) rfl rfl (z_recvC (hp := (h, t)) (by decide) hn2 hc_1000103) rfl (ia_oks_le hn1 rfl) (Nat.le_of_ble_eq_true rfl) (w_J0_length_8abf5_1000103 hn1 hn2 (d + 3) hE k394) (fun h hE => ?_)
    by_cases c395 : r393 ≤ x6
    · have hf := zif_t hf c395
      refine z_icmp_ge_t (tgt := 250) dX12_readClause_228 (by decide) c395 ?_
      exact zW.sub (hex x6 S392 _ hE hf) [0, 1, 2, 3, 4, 5, 6] rfl rfl rfl rfl
    · have hf := zif_f hf c395
      refine z_icmp_ge_f (tgt := 250) dX12_readClause_228 (by decide) c395 ?_
      refine z_aload dX12_readClause_231 rfl ?_
      refine z_iload_n dX12_readClause_233 rfl ?_
      refine z_iload dX12_readClause_234 rfl ?_
      refine z_iadd dX12_readClause_236 ?_
      refine z_iload_n dX12_readClause_237 rfl ?_
      refine z_iload dX12_readClause_238 rfl ?_
      obtain ⟨r397, S396, k398, hf⟩ := zb_some hf
      refine z_callSi dX12_readClause_240 tM_12_233 (by decide) mt_12013 (Nat.le_of_ble_eq_true rfl) rfl rfl (ia_oks_le hn1 rfl) (Nat.le_of_ble_eq_true rfl) (w_X12_usual hn1 hn2 (d + 4) hE k398) (fun h hE => ?_)
      obtain ⟨b399, hf⟩ := zchk hf
      obtain ⟨S400, eS400, hf⟩ := zl_some hf
      refine z_iastoreL (i := (i3 + x6).toNatClampNeg) dX12_readClause_243 hE dr_47 b399 rfl (fun h hE => ?_)
      rw [← eS400] at hE
      obtain ⟨y401, ey401, hf⟩ := zl_some hf
      refine z_iincY (v := 1) (y := y401) (lv' := [(6, .int y401), (0, .ref 41), (1, .int i1), (2, .int i2), (3, .int i3), (4, .ref 47), (5, .ref 1000103)]) dX12_readClause_244 rfl (by decide) (by decide) ey401 rfl ?_
      refine z_goto (tgt := 221) dX12_readClause_247 (by decide) ?_
      exact zW.sub (ih y401 S400 _ hE hf) [1, 2, 3, 4, 5, 6, 0] rfl rfl rfl rfl
theorem w_X12_readClause_L264f {L : Nat} {xs : Nat → Int32} {fm : Bool} {h0 : Nat → va_E} {t : Nat × Nat × Nat} (hn1 : 64 ≤ t.1) (hn2 : t.1 ≤ 1000000) (d : Nat) {ex : Int32 → Int32 → zS → Option (Unit × zS)} {i1 : Int32} {i2 : Int32} {i3 : Int32} {R : Unit × zS} (hex : ∀ (x6 : Int32) (x7 : Int32) (S : zS) (h : Nat → va_E), zE zDr h0 S (h, t) → ex x6 x7 S = some R → zW (ia_P0 L xs fm) ia_nx (d + 5) 12 false cX12_readClause 8 (none) 347 [(0, .ref 41), (1, .int i1), (2, .int i2), (3, .int i3), (4, .ref 47), (5, .ref 1000103), (6, .int x6), (7, .int x7)] [] (h, t) (zQv zDr h0 t R)) : ∀ (k : Nat) (x6 : Int32) (x7 : Int32) (S : zS) (h : Nat → va_E), zE zDr h0 S (h, t) → f_X12_readClause_L264f ex i1 i2 i3 k x6 x7 S = some R → zW (ia_P0 L xs fm) ia_nx (d + 5) 12 false cX12_readClause 8 (none) 264 [(0, .ref 41), (1, .int i1), (2, .int i2), (3, .int i3), (4, .ref 47), (5, .ref 1000103), (6, .int x6), (7, .int x7)] [] (h, t) (zQv zDr h0 t R) := by
  intro k
  induction k with
  | zero => intro x6 x7 S h hE hf; cases hf
  | succ k ih =>
    intro x6 x7 S h hE hf
    unfold f_X12_readClause_L264f at hf
    refine z_iload dX12_readClause_264 rfl ?_
    refine z_iconst (v := (-1)) dX12_readClause_266 (by decide) ?_
    by_cases c410 : x7 = (-1)
    · have hf := zif_t hf c410
      refine z_icmp_eq_t (tgt := 347) dX12_readClause_267 (by decide) c410 ?_
      exact zW.sub (hex x6 x7 S _ hE hf) [0, 1, 2, 3, 4, 5, 6, 7] rfl rfl rfl rfl
    · have hf := zif_f hf c410
      refine z_icmp_eq_f (tgt := 347) dX12_readClause_267 (by decide) c410 ?_
      refine z_aload_n dX12_readClause_270 rfl ?_
      refine z_getI dX12_readClause_271 tF_12_125 hE dr_41 rfl rfl ?_
      refine z_iconst (v := (-1)) dX12_readClause_274 (by decide) ?_
      by_cases c411 : ¬ (S.1 41 11) = (-1)
      · have hf := zif_t hf c411
        refine z_icmp_ne_t (tgt := 347) dX12_readClause_275 (by decide) c411 ?_
        exact zW.sub (hex x6 x7 S _ hE hf) [0, 1, 2, 3, 4, 5, 6, 7] rfl rfl rfl rfl
      · have hf := zif_f hf c411
        refine z_icmp_ne_f (tgt := 347) dX12_readClause_275 (by decide) c411 ?_
        refine z_iload dX12_readClause_278 rfl ?_
        refine z_iload dX12_readClause_280 rfl ?_
        obtain ⟨r413, S412, k414, hf⟩ := zb_some hf
        refine z_callSi dX12_readClause_282 tM_12_241 (by decide) mt_12015 (Nat.le_of_ble_eq_true rfl) rfl rfl (ia_oks_le hn1 rfl) (Nat.le_of_ble_eq_true rfl) (w_X12_has hn1 hn2 (d + 4) hE k414) (fun h hE => ?_)
        by_cases c415 : r413 = 0
        · have hf := zif_t hf c415
          refine z_if_eq_t (tgt := 294) dX12_readClause_285 (by decide) c415 ?_
          refine z_iload dX12_readClause_294 rfl ?_
          refine z_iconst (v := 1) dX12_readClause_296 (by decide) ?_
          refine z_iload dX12_readClause_297 rfl ?_
          refine z_ishl dX12_readClause_299 ?_
          refine z_ior dX12_readClause_300 ?_
          obtain ⟨y416, ey416, hf⟩ := zl_some hf
          refine z_topi ey416 ?_
          refine z_istore (lv' := [(6, .int y416), (0, .ref 41), (1, .int i1), (2, .int i2), (3, .int i3), (4, .ref 47), (5, .ref 1000103), (7, .int x7)]) dX12_readClause_301 (by decide) rfl ?_
          refine z_aload_n dX12_readClause_303 rfl ?_
          refine z_aload dX12_readClause_304 rfl ?_
          refine z_iload_n dX12_readClause_306 rfl ?_
          refine z_iload dX12_readClause_307 rfl ?_
          refine z_iadd dX12_readClause_309 ?_
          refine z_iload_n dX12_readClause_310 rfl ?_
          refine z_iload dX12_readClause_311 rfl ?_
          obtain ⟨r418, S417, k419, hf⟩ := zb_some hf
          refine z_callSi dX12_readClause_313 tM_12_245 (by decide) mt_12016 (Nat.le_of_ble_eq_true rfl) rfl rfl (ia_oks_le hn1 rfl) (Nat.le_of_ble_eq_true rfl) (w_X12_leastOf hn1 hn2 (d + 4) hE k419) (fun h hE => ?_)
          refine z_iload_n dX12_readClause_316 rfl ?_
          refine z_iload dX12_readClause_317 rfl ?_
          obtain ⟨r421, S420, k422, hf⟩ := zb_some hf
          refine z_callSi dX12_readClause_319 tM_12_248 (by decide) mt_12017 (Nat.le_of_ble_eq_true rfl) rfl rfl (ia_oks_le hn1 rfl) (Nat.le_of_ble_eq_true rfl) (w_X12_mostOf hn1 hn2 (d + 4) hE k422) (fun h hE => ?_)
          obtain ⟨r424, S423, k425, hf⟩ := zb_some hf
          refine z_callVv dX12_readClause_322 tM_12_251 mt_12018 (Nat.le_of_ble_eq_true rfl) rfl rfl (z_recv hE dr_41 rfl) rfl (ia_oks_le hn1 rfl) (Nat.le_of_ble_eq_true rfl) (w_X12_readItem_47 hn1 hn2 (d + 3) hE k425) (fun h hE => ?_)
          refine z_aload_n dX12_readClause_325 rfl ?_
          refine z_getI dX12_readClause_326 tF_12_125 hE dr_41 rfl rfl ?_
          refine z_iconst (v := (-1)) dX12_readClause_329 (by decide) ?_
          by_cases c426 : ¬ (S423.1 41 11) = (-1)
          · have hf := zif_t hf c426
            refine z_icmp_ne_t (tgt := 264) dX12_readClause_330 (by decide) c426 ?_
            exact zW.sub (ih y416 x7 S423 _ hE hf) [1, 2, 3, 4, 5, 6, 0, 7] rfl rfl rfl rfl
          · have hf := zif_f hf c426
            refine z_icmp_ne_f (tgt := 264) dX12_readClause_330 (by decide) c426 ?_
            refine z_aload dX12_readClause_333 rfl ?_
            refine z_aload_n dX12_readClause_335 rfl ?_
            obtain ⟨r428, S427, k429, hf⟩ := zb_some hf
            refine z_callVi dX12_readClause_336 tM_12_135 mt_12011 (Nat.le_of_ble_eq_true rfl) rfl rfl (z_recv hE dr_41 rfl) rfl (ia_oks_le hn1 rfl) (Nat.le_of_ble_eq_true rfl) (w_X12_look hn1 hn2 (d + 4) hE k429) (fun h hE => ?_)
            obtain ⟨r431, S430, k432, hf⟩ := zb_some hf
            refine z_callSi dX12_readClause_339 tM_12_237 (by decide) mt_12014 (Nat.le_of_ble_eq_true rfl) rfl rfl (ia_oks_le hn1 rfl) (Nat.le_of_ble_eq_true rfl) (w_X12_placeOf_1000103 hn1 hn2 (d + 0) hE k432) (fun h hE => ?_)
            refine z_istore (lv' := [(7, .int r431), (6, .int y416), (0, .ref 41), (1, .int i1), (2, .int i2), (3, .int i3), (4, .ref 47), (5, .ref 1000103)]) dX12_readClause_342 (by decide) rfl ?_
            refine z_goto (tgt := 264) dX12_readClause_344 (by decide) ?_
            exact zW.sub (ih y416 r431 S430 _ hE hf) [2, 3, 4, 5, 6, 7, 1, 0] rfl rfl rfl rfl
        · have hf := zif_f hf c415
          refine z_if_eq_f (tgt := 294) dX12_readClause_285 (by decide) c415 ?_
          refine z_aload_n dX12_readClause_288 rfl ?_
          obtain ⟨r434, S433, k435, hf⟩ := zb_some hf
          refine z_callVi dX12_readClause_289 tM_12_131 mt_12012 (Nat.le_of_ble_eq_true rfl) rfl rfl (z_recv hE dr_41 rfl) rfl (ia_oks_le hn1 rfl) (Nat.le_of_ble_eq_true rfl) (w_X12_fails hn1 hn2 (d + 4) hE k435) (fun h hE => ?_)
          refine z_pop dX12_readClause_292 rfl ?_
          have e_ := Option.some.inj hf
          subst e_
          exact z_vreturn dX12_readClause_293 rfl ⟨h, rfl, rfl, hE⟩
theorem w_X12_readClause_L221g {L : Nat} {xs : Nat → Int32} {fm : Bool} {h0 : Nat → va_E} {t : Nat × Nat × Nat} (hn1 : 64 ≤ t.1) (hn2 : t.1 ≤ 1000000) (d : Nat) {ex : Int32 → zS → Option (Unit × zS)} {i1 : Int32} {i2 : Int32} {i3 : Int32} {R : Unit × zS} (hex : ∀ (x6 : Int32) (S : zS) (h : Nat → va_E), zE zDr h0 S (h, t) → ex x6 S = some R → zW (ia_P0 L xs fm) ia_nx (d + 5) 12 false cX12_readClause 8 (none) 250 [(0, .ref 41), (1, .int i1), (2, .int i2), (3, .int i3), (4, .ref 47), (5, .ref 1000102), (6, .int x6)] [] (h, t) (zQv zDr h0 t R)) : ∀ (k : Nat) (x6 : Int32) (S : zS) (h : Nat → va_E), zE zDr h0 S (h, t) → f_X12_readClause_L221g ex i1 i2 i3 k x6 S = some R → zW (ia_P0 L xs fm) ia_nx (d + 5) 12 false cX12_readClause 8 (none) 221 [(0, .ref 41), (1, .int i1), (2, .int i2), (3, .int i3), (4, .ref 47), (5, .ref 1000102), (6, .int x6)] [] (h, t) (zQv zDr h0 t R) := by
  intro k
  induction k with
  | zero => intro x6 S h hE hf; cases hf
  | succ k ih =>
    intro x6 S h hE hf
    unfold f_X12_readClause_L221g at hf
    refine z_iload dX12_readClause_221 rfl ?_
    refine z_aload dX12_readClause_223 rfl ?_
    obtain ⟨r452, S451, k453, hf⟩ := zb_some hf
    refine z_callVi dX12_readClause_225 tM_12_96 mt_900003 (Nat.le_of_ble_eq_true rfl) rfl rfl (z_recvC (hp := (h, t)) (by decide) hn2 hc_1000102) rfl (ia_oks_le hn1 rfl) (Nat.le_of_ble_eq_true rfl) (w_J0_length_8abf5_1000102 hn1 hn2 (d + 3) hE k453) (fun h hE => ?_)
    by_cases c454 : r452 ≤ x6
    · have hf := zif_t hf c454
      refine z_icmp_ge_t (tgt := 250) dX12_readClause_228 (by decide) c454 ?_
      exact zW.sub (hex x6 S451 _ hE hf) [0, 1, 2, 3, 4, 5, 6] rfl rfl rfl rfl
    · have hf := zif_f hf c454
      refine z_icmp_ge_f (tgt := 250) dX12_readClause_228 (by decide) c454 ?_
      refine z_aload dX12_readClause_231 rfl ?_
      refine z_iload_n dX12_readClause_233 rfl ?_
      refine z_iload dX12_readClause_234 rfl ?_
      refine z_iadd dX12_readClause_236 ?_
      refine z_iload_n dX12_readClause_237 rfl ?_
      refine z_iload dX12_readClause_238 rfl ?_
      obtain ⟨r456, S455, k457, hf⟩ := zb_some hf
      refine z_callSi dX12_readClause_240 tM_12_233 (by decide) mt_12013 (Nat.le_of_ble_eq_true rfl) rfl rfl (ia_oks_le hn1 rfl) (Nat.le_of_ble_eq_true rfl) (w_X12_usual hn1 hn2 (d + 4) hE k457) (fun h hE => ?_)
      obtain ⟨b458, hf⟩ := zchk hf
      obtain ⟨S459, eS459, hf⟩ := zl_some hf
      refine z_iastoreL (i := (i3 + x6).toNatClampNeg) dX12_readClause_243 hE dr_47 b458 rfl (fun h hE => ?_)
      rw [← eS459] at hE
      obtain ⟨y460, ey460, hf⟩ := zl_some hf
      refine z_iincY (v := 1) (y := y460) (lv' := [(6, .int y460), (0, .ref 41), (1, .int i1), (2, .int i2), (3, .int i3), (4, .ref 47), (5, .ref 1000102)]) dX12_readClause_244 rfl (by decide) (by decide) ey460 rfl ?_
      refine z_goto (tgt := 221) dX12_readClause_247 (by decide) ?_
      exact zW.sub (ih y460 S459 _ hE hf) [1, 2, 3, 4, 5, 6, 0] rfl rfl rfl rfl
theorem w_X12_readClause_L264g {L : Nat} {xs : Nat → Int32} {fm : Bool} {h0 : Nat → va_E} {t : Nat × Nat × Nat} (hn1 : 64 ≤ t.1) (hn2 : t.1 ≤ 1000000) (d : Nat) {ex : Int32 → Int32 → zS → Option (Unit × zS)} {i1 : Int32} {i2 : Int32} {i3 : Int32} {R : Unit × zS} (hex : ∀ (x6 : Int32) (x7 : Int32) (S : zS) (h : Nat → va_E), zE zDr h0 S (h, t) → ex x6 x7 S = some R → zW (ia_P0 L xs fm) ia_nx (d + 5) 12 false cX12_readClause 8 (none) 347 [(0, .ref 41), (1, .int i1), (2, .int i2), (3, .int i3), (4, .ref 47), (5, .ref 1000102), (6, .int x6), (7, .int x7)] [] (h, t) (zQv zDr h0 t R)) : ∀ (k : Nat) (x6 : Int32) (x7 : Int32) (S : zS) (h : Nat → va_E), zE zDr h0 S (h, t) → f_X12_readClause_L264g ex i1 i2 i3 k x6 x7 S = some R → zW (ia_P0 L xs fm) ia_nx (d + 5) 12 false cX12_readClause 8 (none) 264 [(0, .ref 41), (1, .int i1), (2, .int i2), (3, .int i3), (4, .ref 47), (5, .ref 1000102), (6, .int x6), (7, .int x7)] [] (h, t) (zQv zDr h0 t R) := by
  intro k
  induction k with
  | zero => intro x6 x7 S h hE hf; cases hf
  | succ k ih =>
    intro x6 x7 S h hE hf
    unfold f_X12_readClause_L264g at hf
    refine z_iload dX12_readClause_264 rfl ?_
    refine z_iconst (v := (-1)) dX12_readClause_266 (by decide) ?_
    by_cases c469 : x7 = (-1)
    · have hf := zif_t hf c469
      refine z_icmp_eq_t (tgt := 347) dX12_readClause_267 (by decide) c469 ?_
      exact zW.sub (hex x6 x7 S _ hE hf) [0, 1, 2, 3, 4, 5, 6, 7] rfl rfl rfl rfl
    · have hf := zif_f hf c469
      refine z_icmp_eq_f (tgt := 347) dX12_readClause_267 (by decide) c469 ?_
      refine z_aload_n dX12_readClause_270 rfl ?_
      refine z_getI dX12_readClause_271 tF_12_125 hE dr_41 rfl rfl ?_
      refine z_iconst (v := (-1)) dX12_readClause_274 (by decide) ?_
      by_cases c470 : ¬ (S.1 41 11) = (-1)
      · have hf := zif_t hf c470
        refine z_icmp_ne_t (tgt := 347) dX12_readClause_275 (by decide) c470 ?_
        exact zW.sub (hex x6 x7 S _ hE hf) [0, 1, 2, 3, 4, 5, 6, 7] rfl rfl rfl rfl
      · have hf := zif_f hf c470
        refine z_icmp_ne_f (tgt := 347) dX12_readClause_275 (by decide) c470 ?_
        refine z_iload dX12_readClause_278 rfl ?_
        refine z_iload dX12_readClause_280 rfl ?_
        obtain ⟨r472, S471, k473, hf⟩ := zb_some hf
        refine z_callSi dX12_readClause_282 tM_12_241 (by decide) mt_12015 (Nat.le_of_ble_eq_true rfl) rfl rfl (ia_oks_le hn1 rfl) (Nat.le_of_ble_eq_true rfl) (w_X12_has hn1 hn2 (d + 4) hE k473) (fun h hE => ?_)
        by_cases c474 : r472 = 0
        · have hf := zif_t hf c474
          refine z_if_eq_t (tgt := 294) dX12_readClause_285 (by decide) c474 ?_
          refine z_iload dX12_readClause_294 rfl ?_
          refine z_iconst (v := 1) dX12_readClause_296 (by decide) ?_
          refine z_iload dX12_readClause_297 rfl ?_
          refine z_ishl dX12_readClause_299 ?_
          refine z_ior dX12_readClause_300 ?_
          obtain ⟨y475, ey475, hf⟩ := zl_some hf
          refine z_topi ey475 ?_
          refine z_istore (lv' := [(6, .int y475), (0, .ref 41), (1, .int i1), (2, .int i2), (3, .int i3), (4, .ref 47), (5, .ref 1000102), (7, .int x7)]) dX12_readClause_301 (by decide) rfl ?_
          refine z_aload_n dX12_readClause_303 rfl ?_
          refine z_aload dX12_readClause_304 rfl ?_
          refine z_iload_n dX12_readClause_306 rfl ?_
          refine z_iload dX12_readClause_307 rfl ?_
          refine z_iadd dX12_readClause_309 ?_
          refine z_iload_n dX12_readClause_310 rfl ?_
          refine z_iload dX12_readClause_311 rfl ?_
          obtain ⟨r477, S476, k478, hf⟩ := zb_some hf
          refine z_callSi dX12_readClause_313 tM_12_245 (by decide) mt_12016 (Nat.le_of_ble_eq_true rfl) rfl rfl (ia_oks_le hn1 rfl) (Nat.le_of_ble_eq_true rfl) (w_X12_leastOf hn1 hn2 (d + 4) hE k478) (fun h hE => ?_)
          refine z_iload_n dX12_readClause_316 rfl ?_
          refine z_iload dX12_readClause_317 rfl ?_
          obtain ⟨r480, S479, k481, hf⟩ := zb_some hf
          refine z_callSi dX12_readClause_319 tM_12_248 (by decide) mt_12017 (Nat.le_of_ble_eq_true rfl) rfl rfl (ia_oks_le hn1 rfl) (Nat.le_of_ble_eq_true rfl) (w_X12_mostOf hn1 hn2 (d + 4) hE k481) (fun h hE => ?_)
          obtain ⟨r483, S482, k484, hf⟩ := zb_some hf
          refine z_callVv dX12_readClause_322 tM_12_251 mt_12018 (Nat.le_of_ble_eq_true rfl) rfl rfl (z_recv hE dr_41 rfl) rfl (ia_oks_le hn1 rfl) (Nat.le_of_ble_eq_true rfl) (w_X12_readItem_47 hn1 hn2 (d + 3) hE k484) (fun h hE => ?_)
          refine z_aload_n dX12_readClause_325 rfl ?_
          refine z_getI dX12_readClause_326 tF_12_125 hE dr_41 rfl rfl ?_
          refine z_iconst (v := (-1)) dX12_readClause_329 (by decide) ?_
          by_cases c485 : ¬ (S482.1 41 11) = (-1)
          · have hf := zif_t hf c485
            refine z_icmp_ne_t (tgt := 264) dX12_readClause_330 (by decide) c485 ?_
            exact zW.sub (ih y475 x7 S482 _ hE hf) [1, 2, 3, 4, 5, 6, 0, 7] rfl rfl rfl rfl
          · have hf := zif_f hf c485
            refine z_icmp_ne_f (tgt := 264) dX12_readClause_330 (by decide) c485 ?_
            refine z_aload dX12_readClause_333 rfl ?_
            refine z_aload_n dX12_readClause_335 rfl ?_
            obtain ⟨r487, S486, k488, hf⟩ := zb_some hf
            refine z_callVi dX12_readClause_336 tM_12_135 mt_12011 (Nat.le_of_ble_eq_true rfl) rfl rfl (z_recv hE dr_41 rfl) rfl (ia_oks_le hn1 rfl) (Nat.le_of_ble_eq_true rfl) (w_X12_look hn1 hn2 (d + 4) hE k488) (fun h hE => ?_)
            obtain ⟨r490, S489, k491, hf⟩ := zb_some hf
            refine z_callSi dX12_readClause_339 tM_12_237 (by decide) mt_12014 (Nat.le_of_ble_eq_true rfl) rfl rfl (ia_oks_le hn1 rfl) (Nat.le_of_ble_eq_true rfl) (w_X12_placeOf_1000102 hn1 hn2 (d + 0) hE k491) (fun h hE => ?_)
            refine z_istore (lv' := [(7, .int r490), (6, .int y475), (0, .ref 41), (1, .int i1), (2, .int i2), (3, .int i3), (4, .ref 47), (5, .ref 1000102)]) dX12_readClause_342 (by decide) rfl ?_
            refine z_goto (tgt := 264) dX12_readClause_344 (by decide) ?_
            exact zW.sub (ih y475 r490 S489 _ hE hf) [2, 3, 4, 5, 6, 7, 1, 0] rfl rfl rfl rfl
        · have hf := zif_f hf c474
          refine z_if_eq_f (tgt := 294) dX12_readClause_285 (by decide) c474 ?_
          refine z_aload_n dX12_readClause_288 rfl ?_
          obtain ⟨r493, S492, k494, hf⟩ := zb_some hf
          refine z_callVi dX12_readClause_289 tM_12_131 mt_12012 (Nat.le_of_ble_eq_true rfl) rfl rfl (z_recv hE dr_41 rfl) rfl (ia_oks_le hn1 rfl) (Nat.le_of_ble_eq_true rfl) (w_X12_fails hn1 hn2 (d + 4) hE k494) (fun h hE => ?_)
          refine z_pop dX12_readClause_292 rfl ?_
          have e_ := Option.some.inj hf
          subst e_
          exact z_vreturn dX12_readClause_293 rfl ⟨h, rfl, rfl, hE⟩
theorem w_X12_readClause_L221h {L : Nat} {xs : Nat → Int32} {fm : Bool} {h0 : Nat → va_E} {t : Nat × Nat × Nat} (hn1 : 64 ≤ t.1) (hn2 : t.1 ≤ 1000000) (d : Nat) {ex : Int32 → zS → Option (Unit × zS)} {i1 : Int32} {i2 : Int32} {i3 : Int32} {R : Unit × zS} (hex : ∀ (x6 : Int32) (S : zS) (h : Nat → va_E), zE zDr h0 S (h, t) → ex x6 S = some R → zW (ia_P0 L xs fm) ia_nx (d + 5) 12 false cX12_readClause 8 (none) 250 [(0, .ref 41), (1, .int i1), (2, .int i2), (3, .int i3), (4, .ref 47), (5, .ref 1000101), (6, .int x6)] [] (h, t) (zQv zDr h0 t R)) : ∀ (k : Nat) (x6 : Int32) (S : zS) (h : Nat → va_E), zE zDr h0 S (h, t) → f_X12_readClause_L221h ex i1 i2 i3 k x6 S = some R → zW (ia_P0 L xs fm) ia_nx (d + 5) 12 false cX12_readClause 8 (none) 221 [(0, .ref 41), (1, .int i1), (2, .int i2), (3, .int i3), (4, .ref 47), (5, .ref 1000101), (6, .int x6)] [] (h, t) (zQv zDr h0 t R) := by
  intro k
  induction k with
  | zero => intro x6 S h hE hf; cases hf
  | succ k ih =>
    intro x6 S h hE hf
    unfold f_X12_readClause_L221h at hf
    refine z_iload dX12_readClause_221 rfl ?_
    refine z_aload dX12_readClause_223 rfl ?_
    obtain ⟨r511, S510, k512, hf⟩ := zb_some hf
    refine z_callVi dX12_readClause_225 tM_12_96 mt_900003 (Nat.le_of_ble_eq_true rfl) rfl rfl (z_recvC (hp := (h, t)) (by decide) hn2 hc_1000101) rfl (ia_oks_le hn1 rfl) (Nat.le_of_ble_eq_true rfl) (w_J0_length_8abf5_1000101 hn1 hn2 (d + 3) hE k512) (fun h hE => ?_)
    by_cases c513 : r511 ≤ x6
    · have hf := zif_t hf c513
      refine z_icmp_ge_t (tgt := 250) dX12_readClause_228 (by decide) c513 ?_
      exact zW.sub (hex x6 S510 _ hE hf) [0, 1, 2, 3, 4, 5, 6] rfl rfl rfl rfl
    · have hf := zif_f hf c513
      refine z_icmp_ge_f (tgt := 250) dX12_readClause_228 (by decide) c513 ?_
      refine z_aload dX12_readClause_231 rfl ?_
      refine z_iload_n dX12_readClause_233 rfl ?_
      refine z_iload dX12_readClause_234 rfl ?_
      refine z_iadd dX12_readClause_236 ?_
      refine z_iload_n dX12_readClause_237 rfl ?_
      refine z_iload dX12_readClause_238 rfl ?_
      obtain ⟨r515, S514, k516, hf⟩ := zb_some hf
      refine z_callSi dX12_readClause_240 tM_12_233 (by decide) mt_12013 (Nat.le_of_ble_eq_true rfl) rfl rfl (ia_oks_le hn1 rfl) (Nat.le_of_ble_eq_true rfl) (w_X12_usual hn1 hn2 (d + 4) hE k516) (fun h hE => ?_)
      obtain ⟨b517, hf⟩ := zchk hf
      obtain ⟨S518, eS518, hf⟩ := zl_some hf
      refine z_iastoreL (i := (i3 + x6).toNatClampNeg) dX12_readClause_243 hE dr_47 b517 rfl (fun h hE => ?_)
      rw [← eS518] at hE
      obtain ⟨y519, ey519, hf⟩ := zl_some hf
      refine z_iincY (v := 1) (y := y519) (lv' := [(6, .int y519), (0, .ref 41), (1, .int i1), (2, .int i2), (3, .int i3), (4, .ref 47), (5, .ref 1000101)]) dX12_readClause_244 rfl (by decide) (by decide) ey519 rfl ?_
      refine z_goto (tgt := 221) dX12_readClause_247 (by decide) ?_
      exact zW.sub (ih y519 S518 _ hE hf) [1, 2, 3, 4, 5, 6, 0] rfl rfl rfl rfl
theorem w_X12_readClause_L264h {L : Nat} {xs : Nat → Int32} {fm : Bool} {h0 : Nat → va_E} {t : Nat × Nat × Nat} (hn1 : 64 ≤ t.1) (hn2 : t.1 ≤ 1000000) (d : Nat) {ex : Int32 → Int32 → zS → Option (Unit × zS)} {i1 : Int32} {i2 : Int32} {i3 : Int32} {R : Unit × zS} (hex : ∀ (x6 : Int32) (x7 : Int32) (S : zS) (h : Nat → va_E), zE zDr h0 S (h, t) → ex x6 x7 S = some R → zW (ia_P0 L xs fm) ia_nx (d + 5) 12 false cX12_readClause 8 (none) 347 [(0, .ref 41), (1, .int i1), (2, .int i2), (3, .int i3), (4, .ref 47), (5, .ref 1000101), (6, .int x6), (7, .int x7)] [] (h, t) (zQv zDr h0 t R)) : ∀ (k : Nat) (x6 : Int32) (x7 : Int32) (S : zS) (h : Nat → va_E), zE zDr h0 S (h, t) → f_X12_readClause_L264h ex i1 i2 i3 k x6 x7 S = some R → zW (ia_P0 L xs fm) ia_nx (d + 5) 12 false cX12_readClause 8 (none) 264 [(0, .ref 41), (1, .int i1), (2, .int i2), (3, .int i3), (4, .ref 47), (5, .ref 1000101), (6, .int x6), (7, .int x7)] [] (h, t) (zQv zDr h0 t R) := by
  intro k
  induction k with
  | zero => intro x6 x7 S h hE hf; cases hf
  | succ k ih =>
    intro x6 x7 S h hE hf
    unfold f_X12_readClause_L264h at hf
    refine z_iload dX12_readClause_264 rfl ?_
    refine z_iconst (v := (-1)) dX12_readClause_266 (by decide) ?_
    by_cases c528 : x7 = (-1)
    · have hf := zif_t hf c528
      refine z_icmp_eq_t (tgt := 347) dX12_readClause_267 (by decide) c528 ?_
      exact zW.sub (hex x6 x7 S _ hE hf) [0, 1, 2, 3, 4, 5, 6, 7] rfl rfl rfl rfl
    · have hf := zif_f hf c528
      refine z_icmp_eq_f (tgt := 347) dX12_readClause_267 (by decide) c528 ?_
      refine z_aload_n dX12_readClause_270 rfl ?_
      refine z_getI dX12_readClause_271 tF_12_125 hE dr_41 rfl rfl ?_
      refine z_iconst (v := (-1)) dX12_readClause_274 (by decide) ?_
      by_cases c529 : ¬ (S.1 41 11) = (-1)
      · have hf := zif_t hf c529
        refine z_icmp_ne_t (tgt := 347) dX12_readClause_275 (by decide) c529 ?_
        exact zW.sub (hex x6 x7 S _ hE hf) [0, 1, 2, 3, 4, 5, 6, 7] rfl rfl rfl rfl
      · have hf := zif_f hf c529
        refine z_icmp_ne_f (tgt := 347) dX12_readClause_275 (by decide) c529 ?_
        refine z_iload dX12_readClause_278 rfl ?_
        refine z_iload dX12_readClause_280 rfl ?_
        obtain ⟨r531, S530, k532, hf⟩ := zb_some hf
        refine z_callSi dX12_readClause_282 tM_12_241 (by decide) mt_12015 (Nat.le_of_ble_eq_true rfl) rfl rfl (ia_oks_le hn1 rfl) (Nat.le_of_ble_eq_true rfl) (w_X12_has hn1 hn2 (d + 4) hE k532) (fun h hE => ?_)
        by_cases c533 : r531 = 0
        · have hf := zif_t hf c533
          refine z_if_eq_t (tgt := 294) dX12_readClause_285 (by decide) c533 ?_
          refine z_iload dX12_readClause_294 rfl ?_
          refine z_iconst (v := 1) dX12_readClause_296 (by decide) ?_
          refine z_iload dX12_readClause_297 rfl ?_
          refine z_ishl dX12_readClause_299 ?_
          refine z_ior dX12_readClause_300 ?_
          obtain ⟨y534, ey534, hf⟩ := zl_some hf
          refine z_topi ey534 ?_
          refine z_istore (lv' := [(6, .int y534), (0, .ref 41), (1, .int i1), (2, .int i2), (3, .int i3), (4, .ref 47), (5, .ref 1000101), (7, .int x7)]) dX12_readClause_301 (by decide) rfl ?_
          refine z_aload_n dX12_readClause_303 rfl ?_
          refine z_aload dX12_readClause_304 rfl ?_
          refine z_iload_n dX12_readClause_306 rfl ?_
          refine z_iload dX12_readClause_307 rfl ?_
          refine z_iadd dX12_readClause_309 ?_
          refine z_iload_n dX12_readClause_310 rfl ?_
          refine z_iload dX12_readClause_311 rfl ?_
          obtain ⟨r536, S535, k537, hf⟩ := zb_some hf
          refine z_callSi dX12_readClause_313 tM_12_245 (by decide) mt_12016 (Nat.le_of_ble_eq_true rfl) rfl rfl (ia_oks_le hn1 rfl) (Nat.le_of_ble_eq_true rfl) (w_X12_leastOf hn1 hn2 (d + 4) hE k537) (fun h hE => ?_)
          refine z_iload_n dX12_readClause_316 rfl ?_
          refine z_iload dX12_readClause_317 rfl ?_
          obtain ⟨r539, S538, k540, hf⟩ := zb_some hf
          refine z_callSi dX12_readClause_319 tM_12_248 (by decide) mt_12017 (Nat.le_of_ble_eq_true rfl) rfl rfl (ia_oks_le hn1 rfl) (Nat.le_of_ble_eq_true rfl) (w_X12_mostOf hn1 hn2 (d + 4) hE k540) (fun h hE => ?_)
          obtain ⟨r542, S541, k543, hf⟩ := zb_some hf
          refine z_callVv dX12_readClause_322 tM_12_251 mt_12018 (Nat.le_of_ble_eq_true rfl) rfl rfl (z_recv hE dr_41 rfl) rfl (ia_oks_le hn1 rfl) (Nat.le_of_ble_eq_true rfl) (w_X12_readItem_47 hn1 hn2 (d + 3) hE k543) (fun h hE => ?_)
          refine z_aload_n dX12_readClause_325 rfl ?_
          refine z_getI dX12_readClause_326 tF_12_125 hE dr_41 rfl rfl ?_
          refine z_iconst (v := (-1)) dX12_readClause_329 (by decide) ?_
          by_cases c544 : ¬ (S541.1 41 11) = (-1)
          · have hf := zif_t hf c544
            refine z_icmp_ne_t (tgt := 264) dX12_readClause_330 (by decide) c544 ?_
            exact zW.sub (ih y534 x7 S541 _ hE hf) [1, 2, 3, 4, 5, 6, 0, 7] rfl rfl rfl rfl
          · have hf := zif_f hf c544
            refine z_icmp_ne_f (tgt := 264) dX12_readClause_330 (by decide) c544 ?_
            refine z_aload dX12_readClause_333 rfl ?_
            refine z_aload_n dX12_readClause_335 rfl ?_
            obtain ⟨r546, S545, k547, hf⟩ := zb_some hf
            refine z_callVi dX12_readClause_336 tM_12_135 mt_12011 (Nat.le_of_ble_eq_true rfl) rfl rfl (z_recv hE dr_41 rfl) rfl (ia_oks_le hn1 rfl) (Nat.le_of_ble_eq_true rfl) (w_X12_look hn1 hn2 (d + 4) hE k547) (fun h hE => ?_)
            obtain ⟨r549, S548, k550, hf⟩ := zb_some hf
            refine z_callSi dX12_readClause_339 tM_12_237 (by decide) mt_12014 (Nat.le_of_ble_eq_true rfl) rfl rfl (ia_oks_le hn1 rfl) (Nat.le_of_ble_eq_true rfl) (w_X12_placeOf_1000101 hn1 hn2 (d + 0) hE k550) (fun h hE => ?_)
            refine z_istore (lv' := [(7, .int r549), (6, .int y534), (0, .ref 41), (1, .int i1), (2, .int i2), (3, .int i3), (4, .ref 47), (5, .ref 1000101)]) dX12_readClause_342 (by decide) rfl ?_
            refine z_goto (tgt := 264) dX12_readClause_344 (by decide) ?_
            exact zW.sub (ih y534 r549 S548 _ hE hf) [2, 3, 4, 5, 6, 7, 1, 0] rfl rfl rfl rfl
        · have hf := zif_f hf c533
          refine z_if_eq_f (tgt := 294) dX12_readClause_285 (by decide) c533 ?_
          refine z_aload_n dX12_readClause_288 rfl ?_
          obtain ⟨r552, S551, k553, hf⟩ := zb_some hf
          refine z_callVi dX12_readClause_289 tM_12_131 mt_12012 (Nat.le_of_ble_eq_true rfl) rfl rfl (z_recv hE dr_41 rfl) rfl (ia_oks_le hn1 rfl) (Nat.le_of_ble_eq_true rfl) (w_X12_fails hn1 hn2 (d + 4) hE k553) (fun h hE => ?_)
          refine z_pop dX12_readClause_292 rfl ?_
          have e_ := Option.some.inj hf
          subst e_
          exact z_vreturn dX12_readClause_293 rfl ⟨h, rfl, rfl, hE⟩
theorem w_X12_readClause {L : Nat} {xs : Nat → Int32} {fm : Bool} {h0 : Nat → va_E} {t : Nat × Nat × Nat} (hn1 : 64 ≤ t.1) (hn2 : t.1 ≤ 1000000) (d : Nat) {h : Nat → va_E} {S : zS} (hE : zE zDr h0 S (h, t)) {R : Unit × zS} (hf : f_X12_readClause  S = some R) : zC (ia_P0 L xs fm) (d + 6) 12010 [.ref 41] (h, t) (zQv zDr h0 t R) := by
  refine zC_of mt_12010 nn_12010 (Nat.le_of_ble_eq_true rfl) ?_
  refine zW_lv (lv' := [(0, .ref 41)]) rfl ?_
  unfold f_X12_readClause at hf
  refine z_aload_n dX12_readClause_0 rfl ?_
  obtain ⟨r2, S1, k3, hf⟩ := zb_some hf
  refine z_callVi dX12_readClause_1 tM_12_135 mt_12011 (Nat.le_of_ble_eq_true rfl) rfl rfl (z_recv hE dr_41 rfl) rfl (ia_oks_le hn1 rfl) (Nat.le_of_ble_eq_true rfl) (w_X12_look hn1 hn2 (d + 4) hE k3) (fun h hE => ?_)
  refine z_istore_n (lv' := [(1, .int r2), (0, .ref 41)]) dX12_readClause_4 (by decide) rfl ?_
  refine z_iload_n dX12_readClause_5 rfl ?_
  refine z_bipush (v := 106) dX12_readClause_6 (by decide) ?_
  obtain ⟨J5, eJ5, hf⟩ := zl_some hf
  have hJ5 : ∀ (u6 : Unit) (h : Nat → va_E), zE zDr h0 S1 (h, t) → J5 u6 = some R → zW (ia_P0 L xs fm) ia_nx (d + 5) 12 false cX12_readClause 8 (none) 19 [(0, .ref 41), (1, .int r2)] [] (h, t) (zQv zDr h0 t R) := by
    intro u6 h hE hf
    rw [eJ5] at hf
    refine z_iload_n dX12_readClause_19 rfl ?_
    refine z_bipush (v := 104) dX12_readClause_20 (by decide) ?_
    obtain ⟨J8, eJ8, hf⟩ := zl_some hf
    have hJ8 : ∀ (u9 : Unit) (h : Nat → va_E), zE zDr h0 S1 (h, t) → J8 u9 = some R → zW (ia_P0 L xs fm) ia_nx (d + 5) 12 false cX12_readClause 8 (none) 34 [(0, .ref 41), (1, .int r2)] [] (h, t) (zQv zDr h0 t R) := by
      intro u9 h hE hf
      rw [eJ8] at hf
      refine z_iload_n dX12_readClause_34 rfl ?_
      refine z_bipush (v := 116) dX12_readClause_35 (by decide) ?_
      obtain ⟨J11, eJ11, hf⟩ := zl_some hf
      have hJ11 : ∀ (u12 : Unit) (h : Nat → va_E), zE zDr h0 S1 (h, t) → J11 u12 = some R → zW (ia_P0 L xs fm) ia_nx (d + 5) 12 false cX12_readClause 8 (none) 52 [(0, .ref 41), (1, .int r2)] [] (h, t) (zQv zDr h0 t R) := by
        intro u12 h hE hf
        rw [eJ11] at hf
        refine z_iconst (v := 0) dX12_readClause_52 (by decide) ?_
        refine z_istore_n (lv' := [(2, .int 0), (0, .ref 41), (1, .int r2)]) dX12_readClause_53 (by decide) rfl ?_
        refine z_iload_n dX12_readClause_54 rfl ?_
        refine z_if_ne_f (tgt := 64) dX12_readClause_55 (by decide) (by decide) ?_
        refine z_aload_n dX12_readClause_58 rfl ?_
        obtain ⟨r14, S13, k15, hf⟩ := zb_some hf
        refine z_callVi dX12_readClause_59 tM_12_131 mt_12012 (Nat.le_of_ble_eq_true rfl) rfl rfl (z_recv hE dr_41 rfl) rfl (ia_oks_le hn1 rfl) (Nat.le_of_ble_eq_true rfl) (w_X12_fails hn1 hn2 (d + 4) hE k15) (fun h hE => ?_)
        refine z_pop dX12_readClause_62 rfl ?_
        have e_ := Option.some.inj hf
        subst e_
        exact z_vreturn dX12_readClause_63 rfl ⟨h, rfl, rfl, hE⟩
      by_cases c10 : ¬ r2 = 116
      · have hf := zif_t hf c10
        refine z_icmp_ne_t (tgt := 52) dX12_readClause_37 (by decide) c10 ?_
        exact zW.sub (hJ11 () _ hE hf) [0, 1] rfl rfl rfl rfl
      · have hf := zif_f hf c10
        refine z_icmp_ne_f (tgt := 52) dX12_readClause_37 (by decide) c10 ?_
        refine z_aload_n dX12_readClause_40 rfl ?_
        refine z_getI dX12_readClause_41 tF_12_224 hE dr_41 rfl rfl ?_
        refine z_iconst (v := 4) dX12_readClause_44 (by decide) ?_
        by_cases c16 : 4 ≤ (S1.1 41 29)
        · have hf := zif_t hf c16
          refine z_icmp_ge_t (tgt := 52) dX12_readClause_45 (by decide) c16 ?_
          exact zW.sub (hJ11 () _ hE hf) [0, 1] rfl rfl rfl rfl
        · have hf := zif_f hf c16
          refine z_icmp_ge_f (tgt := 52) dX12_readClause_45 (by decide) c16 ?_
          refine z_iconst (v := 1) dX12_readClause_48 (by decide) ?_
          refine z_goto (tgt := 53) dX12_readClause_49 (by decide) ?_
          refine z_istore_n (lv' := [(2, .int 1), (0, .ref 41), (1, .int r2)]) dX12_readClause_53 (by decide) rfl ?_
          refine z_iload_n dX12_readClause_54 rfl ?_
          refine z_if_ne_t (tgt := 64) dX12_readClause_55 (by decide) (by decide) ?_
          refine z_aload_n dX12_readClause_64 rfl ?_
          refine z_dup dX12_readClause_65 rfl ?_
          refine z_getI dX12_readClause_66 tF_12_116 hE dr_41 rfl rfl ?_
          refine z_iconst (v := 1) dX12_readClause_69 (by decide) ?_
          refine z_iadd dX12_readClause_70 ?_
          obtain ⟨S17, eS17, hf⟩ := zl_some hf
          refine z_putI dX12_readClause_71 tF_12_116 hE dr_41 rfl rfl rfl rfl (fun h hE => ?_)
          rw [← eS17] at hE
          refine z_iload_n dX12_readClause_74 rfl ?_
          refine z_bipush (v := 106) dX12_readClause_75 (by decide) ?_
          obtain ⟨J19, eJ19, hf⟩ := zl_some hf
          have hJ19 : ∀ (q20 : Int32) (h : Nat → va_E), zE zDr h0 S17 (h, t) → J19 q20 = some R → zW (ia_P0 L xs fm) ia_nx (d + 5) 12 false cX12_readClause 8 (none) 111 [(0, .ref 41), (1, .int r2), (2, .int 1)] [.int q20] (h, t) (zQv zDr h0 t R) := by
            intro q20 h hE hf
            rw [eJ19] at hf
            refine z_istore_n (lv' := [(3, .int q20), (0, .ref 41), (1, .int r2), (2, .int 1)]) dX12_readClause_111 (by decide) rfl ?_
            refine z_iload_n dX12_readClause_112 rfl ?_
            refine z_bipush (v := 106) dX12_readClause_113 (by decide) ?_
            by_cases c21 : ¬ r2 = 106
            · have hf := zif_t hf c21
              refine z_icmp_ne_t (tgt := 125) dX12_readClause_115 (by decide) c21 ?_
              refine z_iload_n dX12_readClause_125 rfl ?_
              refine z_bipush (v := 104) dX12_readClause_126 (by decide) ?_
              by_cases c22 : ¬ r2 = 104
              · have hf := zif_t hf c22
                refine z_icmp_ne_t (tgt := 138) dX12_readClause_128 (by decide) c22 ?_
                refine z_aload_n dX12_readClause_138 rfl ?_
                refine z_getC dX12_readClause_139 tF_12_52 hE dr_41 rfl rfl ?_
                refine z_astore (lv' := [(4, .ref 51), (3, .int q20), (0, .ref 41), (1, .int r2), (2, .int 1)]) dX12_readClause_142 (by decide) rfl ?_
                refine z_iload_n dX12_readClause_144 rfl ?_
                refine z_bipush (v := 106) dX12_readClause_145 (by decide) ?_
                by_cases c23 : ¬ r2 = 106
                · have hf := zif_t hf c23
                  refine z_icmp_ne_t (tgt := 155) dX12_readClause_147 (by decide) c23 ?_
                  refine z_iload_n dX12_readClause_155 rfl ?_
                  refine z_bipush (v := 104) dX12_readClause_156 (by decide) ?_
                  by_cases c24 : ¬ r2 = 104
                  · have hf := zif_t hf c24
                    refine z_icmp_ne_t (tgt := 166) dX12_readClause_158 (by decide) c24 ?_
                    refine z_ldcS dX12_readClause_166 tK_12_231 ?_
                    refine z_astore (lv' := [(5, .ref 1000103), (4, .ref 51), (3, .int q20), (0, .ref 41), (1, .int r2), (2, .int 1)]) dX12_readClause_168 (by decide) rfl ?_
                    refine z_iload_n dX12_readClause_170 rfl ?_
                    refine z_bipush (v := 106) dX12_readClause_171 (by decide) ?_
                    obtain ⟨J26, eJ26, hf⟩ := zl_some hf
                    have hJ26 : ∀ (S27 : zS) (h : Nat → va_E), zE zDr h0 S27 (h, t) → J26 S27 = some R → zW (ia_P0 L xs fm) ia_nx (d + 5) 12 false cX12_readClause 8 (none) 186 [(0, .ref 41), (1, .int r2), (2, .int 1), (3, .int q20), (4, .ref 51), (5, .ref 1000103)] [] (h, t) (zQv zDr h0 t R) := by
                      intro S27 h hE hf
                      rw [eJ26] at hf
                      refine z_iload_n dX12_readClause_186 rfl ?_
                      refine z_bipush (v := 104) dX12_readClause_187 (by decide) ?_
                      obtain ⟨J29, eJ29, hf⟩ := zl_some hf
                      have hJ29 : ∀ (S30 : zS) (h : Nat → va_E), zE zDr h0 S30 (h, t) → J29 S30 = some R → zW (ia_P0 L xs fm) ia_nx (d + 5) 12 false cX12_readClause 8 (none) 202 [(0, .ref 41), (1, .int r2), (2, .int 1), (3, .int q20), (4, .ref 51), (5, .ref 1000103)] [] (h, t) (zQv zDr h0 t R) := by
                        intro S30 h hE hf
                        rw [eJ29] at hf
                        refine z_iload_n dX12_readClause_202 rfl ?_
                        refine z_bipush (v := 116) dX12_readClause_203 (by decide) ?_
                        obtain ⟨J32, eJ32, hf⟩ := zl_some hf
                        have hJ32 : ∀ (S33 : zS) (h : Nat → va_E), zE zDr h0 S33 (h, t) → J32 S33 = some R → zW (ia_P0 L xs fm) ia_nx (d + 5) 12 false cX12_readClause 8 (none) 218 [(0, .ref 41), (1, .int r2), (2, .int 1), (3, .int q20), (4, .ref 51), (5, .ref 1000103)] [] (h, t) (zQv zDr h0 t R) := by
                          intro S33 h hE hf
                          rw [eJ32] at hf
                          refine z_iconst (v := 0) dX12_readClause_218 (by decide) ?_
                          refine z_istore (lv' := [(6, .int 0), (0, .ref 41), (1, .int r2), (2, .int 1), (3, .int q20), (4, .ref 51), (5, .ref 1000103)]) dX12_readClause_219 (by decide) rfl ?_
                          refine zW.sub (w_X12_readClause_L221 hn1 hn2 d (fun q45 S44 h hE hf => ?_) zN 0 S33 h hE hf) [1, 2, 3, 4, 5, 6, 0] rfl rfl rfl rfl
                          try dsimp only at hf
                          refine z_iconst (v := 0) dX12_readClause_250 (by decide) ?_
                          refine z_istore (lv' := [(6, .int 0), (0, .ref 41), (1, .int r2), (2, .int 1), (3, .int q20), (4, .ref 51), (5, .ref 1000103)]) dX12_readClause_251 (by decide) rfl ?_
                          refine z_aload dX12_readClause_253 rfl ?_
                          refine z_aload_n dX12_readClause_255 rfl ?_
                          obtain ⟨r47, S46, k48, hf⟩ := zb_some hf
                          refine z_callVi dX12_readClause_256 tM_12_135 mt_12011 (Nat.le_of_ble_eq_true rfl) rfl rfl (z_recv hE dr_41 rfl) rfl (ia_oks_le hn1 rfl) (Nat.le_of_ble_eq_true rfl) (w_X12_look hn1 hn2 (d + 4) hE k48) (fun h hE => ?_)
                          obtain ⟨r50, S49, k51, hf⟩ := zb_some hf
                          refine z_callSi dX12_readClause_259 tM_12_237 (by decide) mt_12014 (Nat.le_of_ble_eq_true rfl) rfl rfl (ia_oks_le hn1 rfl) (Nat.le_of_ble_eq_true rfl) (w_X12_placeOf_1000103 hn1 hn2 (d + 0) hE k51) (fun h hE => ?_)
                          refine z_istore (lv' := [(7, .int r50), (6, .int 0), (0, .ref 41), (1, .int r2), (2, .int 1), (3, .int q20), (4, .ref 51), (5, .ref 1000103)]) dX12_readClause_262 (by decide) rfl ?_
                          refine zW.sub (w_X12_readClause_L264 hn1 hn2 d (fun q79 q80 S78 h hE hf => ?_) zN 0 r50 S49 h hE hf) [2, 3, 4, 5, 6, 7, 1, 0] rfl rfl rfl rfl
                          try dsimp only at hf
                          have e_ := Option.some.inj hf
                          subst e_
                          exact z_vreturn dX12_readClause_347 rfl ⟨h, rfl, rfl, hE⟩
                        by_cases c31 : ¬ r2 = 116
                        · have hf := zif_t hf c31
                          refine z_icmp_ne_t (tgt := 218) dX12_readClause_205 (by decide) c31 ?_
                          exact zW.sub (hJ32 S30 _ hE hf) [0, 1, 2, 3, 4, 5] rfl rfl rfl rfl
                        · have hf := zif_f hf c31
                          refine z_icmp_ne_f (tgt := 218) dX12_readClause_205 (by decide) c31 ?_
                          refine z_aload_n dX12_readClause_208 rfl ?_
                          refine z_dup dX12_readClause_209 rfl ?_
                          refine z_getI dX12_readClause_210 tF_12_224 hE dr_41 rfl rfl ?_
                          refine z_iconst (v := 1) dX12_readClause_213 (by decide) ?_
                          refine z_iadd dX12_readClause_214 ?_
                          obtain ⟨S81, eS81, hf⟩ := zl_some hf
                          refine z_putI dX12_readClause_215 tF_12_224 hE dr_41 rfl rfl rfl rfl (fun h hE => ?_)
                          rw [← eS81] at hE
                          exact zW.sub (hJ32 S81 _ hE hf) [0, 1, 2, 3, 4, 5] rfl rfl rfl rfl
                      by_cases c28 : ¬ r2 = 104
                      · have hf := zif_t hf c28
                        refine z_icmp_ne_t (tgt := 202) dX12_readClause_189 (by decide) c28 ?_
                        exact zW.sub (hJ29 S27 _ hE hf) [0, 1, 2, 3, 4, 5] rfl rfl rfl rfl
                      · have hf := zif_f hf c28
                        refine z_icmp_ne_f (tgt := 202) dX12_readClause_189 (by decide) c28 ?_
                        refine z_aload_n dX12_readClause_192 rfl ?_
                        refine z_dup dX12_readClause_193 rfl ?_
                        refine z_getI dX12_readClause_194 tF_12_221 hE dr_41 rfl rfl ?_
                        refine z_iconst (v := 1) dX12_readClause_197 (by decide) ?_
                        refine z_iadd dX12_readClause_198 ?_
                        obtain ⟨S82, eS82, hf⟩ := zl_some hf
                        refine z_putI dX12_readClause_199 tF_12_221 hE dr_41 rfl rfl rfl rfl (fun h hE => ?_)
                        rw [← eS82] at hE
                        exact zW.sub (hJ29 S82 _ hE hf) [0, 1, 2, 3, 4, 5] rfl rfl rfl rfl
                    by_cases c25 : ¬ r2 = 106
                    · have hf := zif_t hf c25
                      refine z_icmp_ne_t (tgt := 186) dX12_readClause_173 (by decide) c25 ?_
                      exact zW.sub (hJ26 S17 _ hE hf) [3, 4, 5, 2, 1, 0] rfl rfl rfl rfl
                    · have hf := zif_f hf c25
                      refine z_icmp_ne_f (tgt := 186) dX12_readClause_173 (by decide) c25 ?_
                      refine z_aload_n dX12_readClause_176 rfl ?_
                      refine z_dup dX12_readClause_177 rfl ?_
                      refine z_getI dX12_readClause_178 tF_12_218 hE dr_41 rfl rfl ?_
                      refine z_iconst (v := 1) dX12_readClause_181 (by decide) ?_
                      refine z_iadd dX12_readClause_182 ?_
                      obtain ⟨S83, eS83, hf⟩ := zl_some hf
                      refine z_putI dX12_readClause_183 tF_12_218 hE dr_41 rfl rfl rfl rfl (fun h hE => ?_)
                      rw [← eS83] at hE
                      exact zW.sub (hJ26 S83 _ hE hf) [3, 4, 5, 2, 1, 0] rfl rfl rfl rfl
                  · have hf := zif_f hf c24
                    refine z_icmp_ne_f (tgt := 166) dX12_readClause_158 (by decide) c24 ?_
                    refine z_ldcS dX12_readClause_161 tK_12_229 ?_
                    refine z_goto (tgt := 168) dX12_readClause_163 (by decide) ?_
                    refine z_astore (lv' := [(5, .ref 1000102), (4, .ref 51), (3, .int q20), (0, .ref 41), (1, .int r2), (2, .int 1)]) dX12_readClause_168 (by decide) rfl ?_
                    refine z_iload_n dX12_readClause_170 rfl ?_
                    refine z_bipush (v := 106) dX12_readClause_171 (by decide) ?_
                    obtain ⟨J85, eJ85, hf⟩ := zl_some hf
                    have hJ85 : ∀ (S86 : zS) (h : Nat → va_E), zE zDr h0 S86 (h, t) → J85 S86 = some R → zW (ia_P0 L xs fm) ia_nx (d + 5) 12 false cX12_readClause 8 (none) 186 [(0, .ref 41), (1, .int r2), (2, .int 1), (3, .int q20), (4, .ref 51), (5, .ref 1000102)] [] (h, t) (zQv zDr h0 t R) := by
                      intro S86 h hE hf
                      rw [eJ85] at hf
                      refine z_iload_n dX12_readClause_186 rfl ?_
                      refine z_bipush (v := 104) dX12_readClause_187 (by decide) ?_
                      obtain ⟨J88, eJ88, hf⟩ := zl_some hf
                      have hJ88 : ∀ (S89 : zS) (h : Nat → va_E), zE zDr h0 S89 (h, t) → J88 S89 = some R → zW (ia_P0 L xs fm) ia_nx (d + 5) 12 false cX12_readClause 8 (none) 202 [(0, .ref 41), (1, .int r2), (2, .int 1), (3, .int q20), (4, .ref 51), (5, .ref 1000102)] [] (h, t) (zQv zDr h0 t R) := by
                        intro S89 h hE hf
                        rw [eJ88] at hf
                        refine z_iload_n dX12_readClause_202 rfl ?_
                        refine z_bipush (v := 116) dX12_readClause_203 (by decide) ?_
                        obtain ⟨J91, eJ91, hf⟩ := zl_some hf
                        have hJ91 : ∀ (S92 : zS) (h : Nat → va_E), zE zDr h0 S92 (h, t) → J91 S92 = some R → zW (ia_P0 L xs fm) ia_nx (d + 5) 12 false cX12_readClause 8 (none) 218 [(0, .ref 41), (1, .int r2), (2, .int 1), (3, .int q20), (4, .ref 51), (5, .ref 1000102)] [] (h, t) (zQv zDr h0 t R) := by
                          intro S92 h hE hf
                          rw [eJ91] at hf
                          refine z_iconst (v := 0) dX12_readClause_218 (by decide) ?_
                          refine z_istore (lv' := [(6, .int 0), (0, .ref 41), (1, .int r2), (2, .int 1), (3, .int q20), (4, .ref 51), (5, .ref 1000102)]) dX12_readClause_219 (by decide) rfl ?_
                          refine zW.sub (w_X12_readClause_L221a hn1 hn2 d (fun q104 S103 h hE hf => ?_) zN 0 S92 h hE hf) [1, 2, 3, 4, 5, 6, 0] rfl rfl rfl rfl
                          try dsimp only at hf
                          refine z_iconst (v := 0) dX12_readClause_250 (by decide) ?_
                          refine z_istore (lv' := [(6, .int 0), (0, .ref 41), (1, .int r2), (2, .int 1), (3, .int q20), (4, .ref 51), (5, .ref 1000102)]) dX12_readClause_251 (by decide) rfl ?_
                          refine z_aload dX12_readClause_253 rfl ?_
                          refine z_aload_n dX12_readClause_255 rfl ?_
                          obtain ⟨r106, S105, k107, hf⟩ := zb_some hf
                          refine z_callVi dX12_readClause_256 tM_12_135 mt_12011 (Nat.le_of_ble_eq_true rfl) rfl rfl (z_recv hE dr_41 rfl) rfl (ia_oks_le hn1 rfl) (Nat.le_of_ble_eq_true rfl) (w_X12_look hn1 hn2 (d + 4) hE k107) (fun h hE => ?_)
                          obtain ⟨r109, S108, k110, hf⟩ := zb_some hf
                          refine z_callSi dX12_readClause_259 tM_12_237 (by decide) mt_12014 (Nat.le_of_ble_eq_true rfl) rfl rfl (ia_oks_le hn1 rfl) (Nat.le_of_ble_eq_true rfl) (w_X12_placeOf_1000102 hn1 hn2 (d + 0) hE k110) (fun h hE => ?_)
                          refine z_istore (lv' := [(7, .int r109), (6, .int 0), (0, .ref 41), (1, .int r2), (2, .int 1), (3, .int q20), (4, .ref 51), (5, .ref 1000102)]) dX12_readClause_262 (by decide) rfl ?_
                          refine zW.sub (w_X12_readClause_L264a hn1 hn2 d (fun q138 q139 S137 h hE hf => ?_) zN 0 r109 S108 h hE hf) [2, 3, 4, 5, 6, 7, 1, 0] rfl rfl rfl rfl
                          try dsimp only at hf
                          have e_ := Option.some.inj hf
                          subst e_
                          exact z_vreturn dX12_readClause_347 rfl ⟨h, rfl, rfl, hE⟩
                        by_cases c90 : ¬ r2 = 116
                        · have hf := zif_t hf c90
                          refine z_icmp_ne_t (tgt := 218) dX12_readClause_205 (by decide) c90 ?_
                          exact zW.sub (hJ91 S89 _ hE hf) [0, 1, 2, 3, 4, 5] rfl rfl rfl rfl
                        · have hf := zif_f hf c90
                          refine z_icmp_ne_f (tgt := 218) dX12_readClause_205 (by decide) c90 ?_
                          refine z_aload_n dX12_readClause_208 rfl ?_
                          refine z_dup dX12_readClause_209 rfl ?_
                          refine z_getI dX12_readClause_210 tF_12_224 hE dr_41 rfl rfl ?_
                          refine z_iconst (v := 1) dX12_readClause_213 (by decide) ?_
                          refine z_iadd dX12_readClause_214 ?_
                          obtain ⟨S140, eS140, hf⟩ := zl_some hf
                          refine z_putI dX12_readClause_215 tF_12_224 hE dr_41 rfl rfl rfl rfl (fun h hE => ?_)
                          rw [← eS140] at hE
                          exact zW.sub (hJ91 S140 _ hE hf) [0, 1, 2, 3, 4, 5] rfl rfl rfl rfl
                      by_cases c87 : ¬ r2 = 104
                      · have hf := zif_t hf c87
                        refine z_icmp_ne_t (tgt := 202) dX12_readClause_189 (by decide) c87 ?_
                        exact zW.sub (hJ88 S86 _ hE hf) [0, 1, 2, 3, 4, 5] rfl rfl rfl rfl
                      · have hf := zif_f hf c87
                        refine z_icmp_ne_f (tgt := 202) dX12_readClause_189 (by decide) c87 ?_
                        refine z_aload_n dX12_readClause_192 rfl ?_
                        refine z_dup dX12_readClause_193 rfl ?_
                        refine z_getI dX12_readClause_194 tF_12_221 hE dr_41 rfl rfl ?_
                        refine z_iconst (v := 1) dX12_readClause_197 (by decide) ?_
                        refine z_iadd dX12_readClause_198 ?_
                        obtain ⟨S141, eS141, hf⟩ := zl_some hf
                        refine z_putI dX12_readClause_199 tF_12_221 hE dr_41 rfl rfl rfl rfl (fun h hE => ?_)
                        rw [← eS141] at hE
                        exact zW.sub (hJ88 S141 _ hE hf) [0, 1, 2, 3, 4, 5] rfl rfl rfl rfl
                    by_cases c84 : ¬ r2 = 106
                    · have hf := zif_t hf c84
                      refine z_icmp_ne_t (tgt := 186) dX12_readClause_173 (by decide) c84 ?_
                      exact zW.sub (hJ85 S17 _ hE hf) [3, 4, 5, 2, 1, 0] rfl rfl rfl rfl
                    · have hf := zif_f hf c84
                      refine z_icmp_ne_f (tgt := 186) dX12_readClause_173 (by decide) c84 ?_
                      refine z_aload_n dX12_readClause_176 rfl ?_
                      refine z_dup dX12_readClause_177 rfl ?_
                      refine z_getI dX12_readClause_178 tF_12_218 hE dr_41 rfl rfl ?_
                      refine z_iconst (v := 1) dX12_readClause_181 (by decide) ?_
                      refine z_iadd dX12_readClause_182 ?_
                      obtain ⟨S142, eS142, hf⟩ := zl_some hf
                      refine z_putI dX12_readClause_183 tF_12_218 hE dr_41 rfl rfl rfl rfl (fun h hE => ?_)
                      rw [← eS142] at hE
                      exact zW.sub (hJ85 S142 _ hE hf) [3, 4, 5, 2, 1, 0] rfl rfl rfl rfl
                · have hf := zif_f hf c23
                  refine z_icmp_ne_f (tgt := 155) dX12_readClause_147 (by decide) c23 ?_
                  refine z_ldcS dX12_readClause_150 tK_12_227 ?_
                  refine z_goto (tgt := 168) dX12_readClause_152 (by decide) ?_
                  refine z_astore (lv' := [(5, .ref 1000101), (4, .ref 51), (3, .int q20), (0, .ref 41), (1, .int r2), (2, .int 1)]) dX12_readClause_168 (by decide) rfl ?_
                  refine z_iload_n dX12_readClause_170 rfl ?_
                  refine z_bipush (v := 106) dX12_readClause_171 (by decide) ?_
                  obtain ⟨J144, eJ144, hf⟩ := zl_some hf
                  have hJ144 : ∀ (S145 : zS) (h : Nat → va_E), zE zDr h0 S145 (h, t) → J144 S145 = some R → zW (ia_P0 L xs fm) ia_nx (d + 5) 12 false cX12_readClause 8 (none) 186 [(0, .ref 41), (1, .int r2), (2, .int 1), (3, .int q20), (4, .ref 51), (5, .ref 1000101)] [] (h, t) (zQv zDr h0 t R) := by
                    intro S145 h hE hf
                    rw [eJ144] at hf
                    refine z_iload_n dX12_readClause_186 rfl ?_
                    refine z_bipush (v := 104) dX12_readClause_187 (by decide) ?_
                    obtain ⟨J147, eJ147, hf⟩ := zl_some hf
                    have hJ147 : ∀ (S148 : zS) (h : Nat → va_E), zE zDr h0 S148 (h, t) → J147 S148 = some R → zW (ia_P0 L xs fm) ia_nx (d + 5) 12 false cX12_readClause 8 (none) 202 [(0, .ref 41), (1, .int r2), (2, .int 1), (3, .int q20), (4, .ref 51), (5, .ref 1000101)] [] (h, t) (zQv zDr h0 t R) := by
                      intro S148 h hE hf
                      rw [eJ147] at hf
                      refine z_iload_n dX12_readClause_202 rfl ?_
                      refine z_bipush (v := 116) dX12_readClause_203 (by decide) ?_
                      obtain ⟨J150, eJ150, hf⟩ := zl_some hf
                      have hJ150 : ∀ (S151 : zS) (h : Nat → va_E), zE zDr h0 S151 (h, t) → J150 S151 = some R → zW (ia_P0 L xs fm) ia_nx (d + 5) 12 false cX12_readClause 8 (none) 218 [(0, .ref 41), (1, .int r2), (2, .int 1), (3, .int q20), (4, .ref 51), (5, .ref 1000101)] [] (h, t) (zQv zDr h0 t R) := by
                        intro S151 h hE hf
                        rw [eJ150] at hf
                        refine z_iconst (v := 0) dX12_readClause_218 (by decide) ?_
                        refine z_istore (lv' := [(6, .int 0), (0, .ref 41), (1, .int r2), (2, .int 1), (3, .int q20), (4, .ref 51), (5, .ref 1000101)]) dX12_readClause_219 (by decide) rfl ?_
                        refine zW.sub (w_X12_readClause_L221b hn1 hn2 d (fun q163 S162 h hE hf => ?_) zN 0 S151 h hE hf) [1, 2, 3, 4, 5, 6, 0] rfl rfl rfl rfl
                        try dsimp only at hf
                        refine z_iconst (v := 0) dX12_readClause_250 (by decide) ?_
                        refine z_istore (lv' := [(6, .int 0), (0, .ref 41), (1, .int r2), (2, .int 1), (3, .int q20), (4, .ref 51), (5, .ref 1000101)]) dX12_readClause_251 (by decide) rfl ?_
                        refine z_aload dX12_readClause_253 rfl ?_
                        refine z_aload_n dX12_readClause_255 rfl ?_
                        obtain ⟨r165, S164, k166, hf⟩ := zb_some hf
                        refine z_callVi dX12_readClause_256 tM_12_135 mt_12011 (Nat.le_of_ble_eq_true rfl) rfl rfl (z_recv hE dr_41 rfl) rfl (ia_oks_le hn1 rfl) (Nat.le_of_ble_eq_true rfl) (w_X12_look hn1 hn2 (d + 4) hE k166) (fun h hE => ?_)
                        obtain ⟨r168, S167, k169, hf⟩ := zb_some hf
                        refine z_callSi dX12_readClause_259 tM_12_237 (by decide) mt_12014 (Nat.le_of_ble_eq_true rfl) rfl rfl (ia_oks_le hn1 rfl) (Nat.le_of_ble_eq_true rfl) (w_X12_placeOf_1000101 hn1 hn2 (d + 0) hE k169) (fun h hE => ?_)
                        refine z_istore (lv' := [(7, .int r168), (6, .int 0), (0, .ref 41), (1, .int r2), (2, .int 1), (3, .int q20), (4, .ref 51), (5, .ref 1000101)]) dX12_readClause_262 (by decide) rfl ?_
                        refine zW.sub (w_X12_readClause_L264b hn1 hn2 d (fun q197 q198 S196 h hE hf => ?_) zN 0 r168 S167 h hE hf) [2, 3, 4, 5, 6, 7, 1, 0] rfl rfl rfl rfl
                        try dsimp only at hf
                        have e_ := Option.some.inj hf
                        subst e_
                        exact z_vreturn dX12_readClause_347 rfl ⟨h, rfl, rfl, hE⟩
                      by_cases c149 : ¬ r2 = 116
                      · have hf := zif_t hf c149
                        refine z_icmp_ne_t (tgt := 218) dX12_readClause_205 (by decide) c149 ?_
                        exact zW.sub (hJ150 S148 _ hE hf) [0, 1, 2, 3, 4, 5] rfl rfl rfl rfl
                      · have hf := zif_f hf c149
                        refine z_icmp_ne_f (tgt := 218) dX12_readClause_205 (by decide) c149 ?_
                        refine z_aload_n dX12_readClause_208 rfl ?_
                        refine z_dup dX12_readClause_209 rfl ?_
                        refine z_getI dX12_readClause_210 tF_12_224 hE dr_41 rfl rfl ?_
                        refine z_iconst (v := 1) dX12_readClause_213 (by decide) ?_
                        refine z_iadd dX12_readClause_214 ?_
                        obtain ⟨S199, eS199, hf⟩ := zl_some hf
                        refine z_putI dX12_readClause_215 tF_12_224 hE dr_41 rfl rfl rfl rfl (fun h hE => ?_)
                        rw [← eS199] at hE
                        exact zW.sub (hJ150 S199 _ hE hf) [0, 1, 2, 3, 4, 5] rfl rfl rfl rfl
                    by_cases c146 : ¬ r2 = 104
                    · have hf := zif_t hf c146
                      refine z_icmp_ne_t (tgt := 202) dX12_readClause_189 (by decide) c146 ?_
                      exact zW.sub (hJ147 S145 _ hE hf) [0, 1, 2, 3, 4, 5] rfl rfl rfl rfl
                    · have hf := zif_f hf c146
                      refine z_icmp_ne_f (tgt := 202) dX12_readClause_189 (by decide) c146 ?_
                      refine z_aload_n dX12_readClause_192 rfl ?_
                      refine z_dup dX12_readClause_193 rfl ?_
                      refine z_getI dX12_readClause_194 tF_12_221 hE dr_41 rfl rfl ?_
                      refine z_iconst (v := 1) dX12_readClause_197 (by decide) ?_
                      refine z_iadd dX12_readClause_198 ?_
                      obtain ⟨S200, eS200, hf⟩ := zl_some hf
                      refine z_putI dX12_readClause_199 tF_12_221 hE dr_41 rfl rfl rfl rfl (fun h hE => ?_)
                      rw [← eS200] at hE
                      exact zW.sub (hJ147 S200 _ hE hf) [0, 1, 2, 3, 4, 5] rfl rfl rfl rfl
                  by_cases c143 : ¬ r2 = 106
                  · have hf := zif_t hf c143
                    refine z_icmp_ne_t (tgt := 186) dX12_readClause_173 (by decide) c143 ?_
                    exact zW.sub (hJ144 S17 _ hE hf) [3, 4, 5, 2, 1, 0] rfl rfl rfl rfl
                  · have hf := zif_f hf c143
                    refine z_icmp_ne_f (tgt := 186) dX12_readClause_173 (by decide) c143 ?_
                    refine z_aload_n dX12_readClause_176 rfl ?_
                    refine z_dup dX12_readClause_177 rfl ?_
                    refine z_getI dX12_readClause_178 tF_12_218 hE dr_41 rfl rfl ?_
                    refine z_iconst (v := 1) dX12_readClause_181 (by decide) ?_
                    refine z_iadd dX12_readClause_182 ?_
                    obtain ⟨S201, eS201, hf⟩ := zl_some hf
                    refine z_putI dX12_readClause_183 tF_12_218 hE dr_41 rfl rfl rfl rfl (fun h hE => ?_)
                    rw [← eS201] at hE
                    exact zW.sub (hJ144 S201 _ hE hf) [3, 4, 5, 2, 1, 0] rfl rfl rfl rfl
              · have hf := zif_f hf c22
                refine z_icmp_ne_f (tgt := 138) dX12_readClause_128 (by decide) c22 ?_
                refine z_aload_n dX12_readClause_131 rfl ?_
                refine z_getC dX12_readClause_132 tF_12_46 hE dr_41 rfl rfl ?_
                refine z_goto (tgt := 142) dX12_readClause_135 (by decide) ?_
                refine z_astore (lv' := [(4, .ref 49), (3, .int q20), (0, .ref 41), (1, .int r2), (2, .int 1)]) dX12_readClause_142 (by decide) rfl ?_
                refine z_iload_n dX12_readClause_144 rfl ?_
                refine z_bipush (v := 106) dX12_readClause_145 (by decide) ?_
                by_cases c202 : ¬ r2 = 106
                · have hf := zif_t hf c202
                  refine z_icmp_ne_t (tgt := 155) dX12_readClause_147 (by decide) c202 ?_
                  refine z_iload_n dX12_readClause_155 rfl ?_
                  refine z_bipush (v := 104) dX12_readClause_156 (by decide) ?_
                  by_cases c203 : ¬ r2 = 104
                  · have hf := zif_t hf c203
                    refine z_icmp_ne_t (tgt := 166) dX12_readClause_158 (by decide) c203 ?_
                    refine z_ldcS dX12_readClause_166 tK_12_231 ?_
                    refine z_astore (lv' := [(5, .ref 1000103), (4, .ref 49), (3, .int q20), (0, .ref 41), (1, .int r2), (2, .int 1)]) dX12_readClause_168 (by decide) rfl ?_
                    refine z_iload_n dX12_readClause_170 rfl ?_
                    refine z_bipush (v := 106) dX12_readClause_171 (by decide) ?_
                    obtain ⟨J205, eJ205, hf⟩ := zl_some hf
                    have hJ205 : ∀ (S206 : zS) (h : Nat → va_E), zE zDr h0 S206 (h, t) → J205 S206 = some R → zW (ia_P0 L xs fm) ia_nx (d + 5) 12 false cX12_readClause 8 (none) 186 [(0, .ref 41), (1, .int r2), (2, .int 1), (3, .int q20), (4, .ref 49), (5, .ref 1000103)] [] (h, t) (zQv zDr h0 t R) := by
                      intro S206 h hE hf
                      rw [eJ205] at hf
                      refine z_iload_n dX12_readClause_186 rfl ?_
                      refine z_bipush (v := 104) dX12_readClause_187 (by decide) ?_
                      obtain ⟨J208, eJ208, hf⟩ := zl_some hf
                      have hJ208 : ∀ (S209 : zS) (h : Nat → va_E), zE zDr h0 S209 (h, t) → J208 S209 = some R → zW (ia_P0 L xs fm) ia_nx (d + 5) 12 false cX12_readClause 8 (none) 202 [(0, .ref 41), (1, .int r2), (2, .int 1), (3, .int q20), (4, .ref 49), (5, .ref 1000103)] [] (h, t) (zQv zDr h0 t R) := by
                        intro S209 h hE hf
                        rw [eJ208] at hf
                        refine z_iload_n dX12_readClause_202 rfl ?_
                        refine z_bipush (v := 116) dX12_readClause_203 (by decide) ?_
                        obtain ⟨J211, eJ211, hf⟩ := zl_some hf
                        have hJ211 : ∀ (S212 : zS) (h : Nat → va_E), zE zDr h0 S212 (h, t) → J211 S212 = some R → zW (ia_P0 L xs fm) ia_nx (d + 5) 12 false cX12_readClause 8 (none) 218 [(0, .ref 41), (1, .int r2), (2, .int 1), (3, .int q20), (4, .ref 49), (5, .ref 1000103)] [] (h, t) (zQv zDr h0 t R) := by
                          intro S212 h hE hf
                          rw [eJ211] at hf
                          refine z_iconst (v := 0) dX12_readClause_218 (by decide) ?_
                          refine z_istore (lv' := [(6, .int 0), (0, .ref 41), (1, .int r2), (2, .int 1), (3, .int q20), (4, .ref 49), (5, .ref 1000103)]) dX12_readClause_219 (by decide) rfl ?_
                          refine zW.sub (w_X12_readClause_L221c hn1 hn2 d (fun q224 S223 h hE hf => ?_) zN 0 S212 h hE hf) [1, 2, 3, 4, 5, 6, 0] rfl rfl rfl rfl
                          try dsimp only at hf
                          refine z_iconst (v := 0) dX12_readClause_250 (by decide) ?_
                          refine z_istore (lv' := [(6, .int 0), (0, .ref 41), (1, .int r2), (2, .int 1), (3, .int q20), (4, .ref 49), (5, .ref 1000103)]) dX12_readClause_251 (by decide) rfl ?_
                          refine z_aload dX12_readClause_253 rfl ?_
                          refine z_aload_n dX12_readClause_255 rfl ?_
                          obtain ⟨r226, S225, k227, hf⟩ := zb_some hf
                          refine z_callVi dX12_readClause_256 tM_12_135 mt_12011 (Nat.le_of_ble_eq_true rfl) rfl rfl (z_recv hE dr_41 rfl) rfl (ia_oks_le hn1 rfl) (Nat.le_of_ble_eq_true rfl) (w_X12_look hn1 hn2 (d + 4) hE k227) (fun h hE => ?_)
                          obtain ⟨r229, S228, k230, hf⟩ := zb_some hf
                          refine z_callSi dX12_readClause_259 tM_12_237 (by decide) mt_12014 (Nat.le_of_ble_eq_true rfl) rfl rfl (ia_oks_le hn1 rfl) (Nat.le_of_ble_eq_true rfl) (w_X12_placeOf_1000103 hn1 hn2 (d + 0) hE k230) (fun h hE => ?_)
                          refine z_istore (lv' := [(7, .int r229), (6, .int 0), (0, .ref 41), (1, .int r2), (2, .int 1), (3, .int q20), (4, .ref 49), (5, .ref 1000103)]) dX12_readClause_262 (by decide) rfl ?_
                          refine zW.sub (w_X12_readClause_L264c hn1 hn2 d (fun q258 q259 S257 h hE hf => ?_) zN 0 r229 S228 h hE hf) [2, 3, 4, 5, 6, 7, 1, 0] rfl rfl rfl rfl
                          try dsimp only at hf
                          have e_ := Option.some.inj hf
                          subst e_
                          exact z_vreturn dX12_readClause_347 rfl ⟨h, rfl, rfl, hE⟩
                        by_cases c210 : ¬ r2 = 116
                        · have hf := zif_t hf c210
                          refine z_icmp_ne_t (tgt := 218) dX12_readClause_205 (by decide) c210 ?_
                          exact zW.sub (hJ211 S209 _ hE hf) [0, 1, 2, 3, 4, 5] rfl rfl rfl rfl
                        · have hf := zif_f hf c210
                          refine z_icmp_ne_f (tgt := 218) dX12_readClause_205 (by decide) c210 ?_
                          refine z_aload_n dX12_readClause_208 rfl ?_
                          refine z_dup dX12_readClause_209 rfl ?_
                          refine z_getI dX12_readClause_210 tF_12_224 hE dr_41 rfl rfl ?_
                          refine z_iconst (v := 1) dX12_readClause_213 (by decide) ?_
                          refine z_iadd dX12_readClause_214 ?_
                          obtain ⟨S260, eS260, hf⟩ := zl_some hf
                          refine z_putI dX12_readClause_215 tF_12_224 hE dr_41 rfl rfl rfl rfl (fun h hE => ?_)
                          rw [← eS260] at hE
                          exact zW.sub (hJ211 S260 _ hE hf) [0, 1, 2, 3, 4, 5] rfl rfl rfl rfl
                      by_cases c207 : ¬ r2 = 104
                      · have hf := zif_t hf c207
                        refine z_icmp_ne_t (tgt := 202) dX12_readClause_189 (by decide) c207 ?_
                        exact zW.sub (hJ208 S206 _ hE hf) [0, 1, 2, 3, 4, 5] rfl rfl rfl rfl
                      · have hf := zif_f hf c207
                        refine z_icmp_ne_f (tgt := 202) dX12_readClause_189 (by decide) c207 ?_
                        refine z_aload_n dX12_readClause_192 rfl ?_
                        refine z_dup dX12_readClause_193 rfl ?_
                        refine z_getI dX12_readClause_194 tF_12_221 hE dr_41 rfl rfl ?_
                        refine z_iconst (v := 1) dX12_readClause_197 (by decide) ?_
                        refine z_iadd dX12_readClause_198 ?_
                        obtain ⟨S261, eS261, hf⟩ := zl_some hf
                        refine z_putI dX12_readClause_199 tF_12_221 hE dr_41 rfl rfl rfl rfl (fun h hE => ?_)
                        rw [← eS261] at hE
                        exact zW.sub (hJ208 S261 _ hE hf) [0, 1, 2, 3, 4, 5] rfl rfl rfl rfl
                    by_cases c204 : ¬ r2 = 106
                    · have hf := zif_t hf c204
                      refine z_icmp_ne_t (tgt := 186) dX12_readClause_173 (by decide) c204 ?_
                      exact zW.sub (hJ205 S17 _ hE hf) [3, 4, 5, 2, 1, 0] rfl rfl rfl rfl
                    · have hf := zif_f hf c204
                      refine z_icmp_ne_f (tgt := 186) dX12_readClause_173 (by decide) c204 ?_
                      refine z_aload_n dX12_readClause_176 rfl ?_
                      refine z_dup dX12_readClause_177 rfl ?_
                      refine z_getI dX12_readClause_178 tF_12_218 hE dr_41 rfl rfl ?_
                      refine z_iconst (v := 1) dX12_readClause_181 (by decide) ?_
                      refine z_iadd dX12_readClause_182 ?_
                      obtain ⟨S262, eS262, hf⟩ := zl_some hf
                      refine z_putI dX12_readClause_183 tF_12_218 hE dr_41 rfl rfl rfl rfl (fun h hE => ?_)
                      rw [← eS262] at hE
                      exact zW.sub (hJ205 S262 _ hE hf) [3, 4, 5, 2, 1, 0] rfl rfl rfl rfl
                  · have hf := zif_f hf c203
                    refine z_icmp_ne_f (tgt := 166) dX12_readClause_158 (by decide) c203 ?_
                    refine z_ldcS dX12_readClause_161 tK_12_229 ?_
                    refine z_goto (tgt := 168) dX12_readClause_163 (by decide) ?_
                    refine z_astore (lv' := [(5, .ref 1000102), (4, .ref 49), (3, .int q20), (0, .ref 41), (1, .int r2), (2, .int 1)]) dX12_readClause_168 (by decide) rfl ?_
                    refine z_iload_n dX12_readClause_170 rfl ?_
                    refine z_bipush (v := 106) dX12_readClause_171 (by decide) ?_
                    obtain ⟨J264, eJ264, hf⟩ := zl_some hf
                    have hJ264 : ∀ (S265 : zS) (h : Nat → va_E), zE zDr h0 S265 (h, t) → J264 S265 = some R → zW (ia_P0 L xs fm) ia_nx (d + 5) 12 false cX12_readClause 8 (none) 186 [(0, .ref 41), (1, .int r2), (2, .int 1), (3, .int q20), (4, .ref 49), (5, .ref 1000102)] [] (h, t) (zQv zDr h0 t R) := by
                      intro S265 h hE hf
                      rw [eJ264] at hf
                      refine z_iload_n dX12_readClause_186 rfl ?_
                      refine z_bipush (v := 104) dX12_readClause_187 (by decide) ?_
                      obtain ⟨J267, eJ267, hf⟩ := zl_some hf
                      have hJ267 : ∀ (S268 : zS) (h : Nat → va_E), zE zDr h0 S268 (h, t) → J267 S268 = some R → zW (ia_P0 L xs fm) ia_nx (d + 5) 12 false cX12_readClause 8 (none) 202 [(0, .ref 41), (1, .int r2), (2, .int 1), (3, .int q20), (4, .ref 49), (5, .ref 1000102)] [] (h, t) (zQv zDr h0 t R) := by
                        intro S268 h hE hf
                        rw [eJ267] at hf
                        refine z_iload_n dX12_readClause_202 rfl ?_
                        refine z_bipush (v := 116) dX12_readClause_203 (by decide) ?_
                        obtain ⟨J270, eJ270, hf⟩ := zl_some hf
                        have hJ270 : ∀ (S271 : zS) (h : Nat → va_E), zE zDr h0 S271 (h, t) → J270 S271 = some R → zW (ia_P0 L xs fm) ia_nx (d + 5) 12 false cX12_readClause 8 (none) 218 [(0, .ref 41), (1, .int r2), (2, .int 1), (3, .int q20), (4, .ref 49), (5, .ref 1000102)] [] (h, t) (zQv zDr h0 t R) := by
                          intro S271 h hE hf
                          rw [eJ270] at hf
                          refine z_iconst (v := 0) dX12_readClause_218 (by decide) ?_
                          refine z_istore (lv' := [(6, .int 0), (0, .ref 41), (1, .int r2), (2, .int 1), (3, .int q20), (4, .ref 49), (5, .ref 1000102)]) dX12_readClause_219 (by decide) rfl ?_
                          refine zW.sub (w_X12_readClause_L221d hn1 hn2 d (fun q283 S282 h hE hf => ?_) zN 0 S271 h hE hf) [1, 2, 3, 4, 5, 6, 0] rfl rfl rfl rfl
                          try dsimp only at hf
                          refine z_iconst (v := 0) dX12_readClause_250 (by decide) ?_
                          refine z_istore (lv' := [(6, .int 0), (0, .ref 41), (1, .int r2), (2, .int 1), (3, .int q20), (4, .ref 49), (5, .ref 1000102)]) dX12_readClause_251 (by decide) rfl ?_
                          refine z_aload dX12_readClause_253 rfl ?_
                          refine z_aload_n dX12_readClause_255 rfl ?_
                          obtain ⟨r285, S284, k286, hf⟩ := zb_some hf
                          refine z_callVi dX12_readClause_256 tM_12_135 mt_12011 (Nat.le_of_ble_eq_true rfl) rfl rfl (z_recv hE dr_41 rfl) rfl (ia_oks_le hn1 rfl) (Nat.le_of_ble_eq_true rfl) (w_X12_look hn1 hn2 (d + 4) hE k286) (fun h hE => ?_)
                          obtain ⟨r288, S287, k289, hf⟩ := zb_some hf
                          refine z_callSi dX12_readClause_259 tM_12_237 (by decide) mt_12014 (Nat.le_of_ble_eq_true rfl) rfl rfl (ia_oks_le hn1 rfl) (Nat.le_of_ble_eq_true rfl) (w_X12_placeOf_1000102 hn1 hn2 (d + 0) hE k289) (fun h hE => ?_)
                          refine z_istore (lv' := [(7, .int r288), (6, .int 0), (0, .ref 41), (1, .int r2), (2, .int 1), (3, .int q20), (4, .ref 49), (5, .ref 1000102)]) dX12_readClause_262 (by decide) rfl ?_
                          refine zW.sub (w_X12_readClause_L264d hn1 hn2 d (fun q317 q318 S316 h hE hf => ?_) zN 0 r288 S287 h hE hf) [2, 3, 4, 5, 6, 7, 1, 0] rfl rfl rfl rfl
                          try dsimp only at hf
                          have e_ := Option.some.inj hf
                          subst e_
                          exact z_vreturn dX12_readClause_347 rfl ⟨h, rfl, rfl, hE⟩
                        by_cases c269 : ¬ r2 = 116
                        · have hf := zif_t hf c269
                          refine z_icmp_ne_t (tgt := 218) dX12_readClause_205 (by decide) c269 ?_
                          exact zW.sub (hJ270 S268 _ hE hf) [0, 1, 2, 3, 4, 5] rfl rfl rfl rfl
                        · have hf := zif_f hf c269
                          refine z_icmp_ne_f (tgt := 218) dX12_readClause_205 (by decide) c269 ?_
                          refine z_aload_n dX12_readClause_208 rfl ?_
                          refine z_dup dX12_readClause_209 rfl ?_
                          refine z_getI dX12_readClause_210 tF_12_224 hE dr_41 rfl rfl ?_
                          refine z_iconst (v := 1) dX12_readClause_213 (by decide) ?_
                          refine z_iadd dX12_readClause_214 ?_
                          obtain ⟨S319, eS319, hf⟩ := zl_some hf
                          refine z_putI dX12_readClause_215 tF_12_224 hE dr_41 rfl rfl rfl rfl (fun h hE => ?_)
                          rw [← eS319] at hE
                          exact zW.sub (hJ270 S319 _ hE hf) [0, 1, 2, 3, 4, 5] rfl rfl rfl rfl
                      by_cases c266 : ¬ r2 = 104
                      · have hf := zif_t hf c266
                        refine z_icmp_ne_t (tgt := 202) dX12_readClause_189 (by decide) c266 ?_
                        exact zW.sub (hJ267 S265 _ hE hf) [0, 1, 2, 3, 4, 5] rfl rfl rfl rfl
                      · have hf := zif_f hf c266
                        refine z_icmp_ne_f (tgt := 202) dX12_readClause_189 (by decide) c266 ?_
                        refine z_aload_n dX12_readClause_192 rfl ?_
                        refine z_dup dX12_readClause_193 rfl ?_
                        refine z_getI dX12_readClause_194 tF_12_221 hE dr_41 rfl rfl ?_
                        refine z_iconst (v := 1) dX12_readClause_197 (by decide) ?_
                        refine z_iadd dX12_readClause_198 ?_
                        obtain ⟨S320, eS320, hf⟩ := zl_some hf
                        refine z_putI dX12_readClause_199 tF_12_221 hE dr_41 rfl rfl rfl rfl (fun h hE => ?_)
                        rw [← eS320] at hE
                        exact zW.sub (hJ267 S320 _ hE hf) [0, 1, 2, 3, 4, 5] rfl rfl rfl rfl
                    by_cases c263 : ¬ r2 = 106
                    · have hf := zif_t hf c263
                      refine z_icmp_ne_t (tgt := 186) dX12_readClause_173 (by decide) c263 ?_
                      exact zW.sub (hJ264 S17 _ hE hf) [3, 4, 5, 2, 1, 0] rfl rfl rfl rfl
                    · have hf := zif_f hf c263
                      refine z_icmp_ne_f (tgt := 186) dX12_readClause_173 (by decide) c263 ?_
                      refine z_aload_n dX12_readClause_176 rfl ?_
                      refine z_dup dX12_readClause_177 rfl ?_
                      refine z_getI dX12_readClause_178 tF_12_218 hE dr_41 rfl rfl ?_
                      refine z_iconst (v := 1) dX12_readClause_181 (by decide) ?_
                      refine z_iadd dX12_readClause_182 ?_
                      obtain ⟨S321, eS321, hf⟩ := zl_some hf
                      refine z_putI dX12_readClause_183 tF_12_218 hE dr_41 rfl rfl rfl rfl (fun h hE => ?_)
                      rw [← eS321] at hE
                      exact zW.sub (hJ264 S321 _ hE hf) [3, 4, 5, 2, 1, 0] rfl rfl rfl rfl
                · have hf := zif_f hf c202
                  refine z_icmp_ne_f (tgt := 155) dX12_readClause_147 (by decide) c202 ?_
                  refine z_ldcS dX12_readClause_150 tK_12_227 ?_
                  refine z_goto (tgt := 168) dX12_readClause_152 (by decide) ?_
                  refine z_astore (lv' := [(5, .ref 1000101), (4, .ref 49), (3, .int q20), (0, .ref 41), (1, .int r2), (2, .int 1)]) dX12_readClause_168 (by decide) rfl ?_
                  refine z_iload_n dX12_readClause_170 rfl ?_
                  refine z_bipush (v := 106) dX12_readClause_171 (by decide) ?_
                  obtain ⟨J323, eJ323, hf⟩ := zl_some hf
                  have hJ323 : ∀ (S324 : zS) (h : Nat → va_E), zE zDr h0 S324 (h, t) → J323 S324 = some R → zW (ia_P0 L xs fm) ia_nx (d + 5) 12 false cX12_readClause 8 (none) 186 [(0, .ref 41), (1, .int r2), (2, .int 1), (3, .int q20), (4, .ref 49), (5, .ref 1000101)] [] (h, t) (zQv zDr h0 t R) := by
                    intro S324 h hE hf
                    rw [eJ323] at hf
                    refine z_iload_n dX12_readClause_186 rfl ?_
                    refine z_bipush (v := 104) dX12_readClause_187 (by decide) ?_
                    obtain ⟨J326, eJ326, hf⟩ := zl_some hf
                    have hJ326 : ∀ (S327 : zS) (h : Nat → va_E), zE zDr h0 S327 (h, t) → J326 S327 = some R → zW (ia_P0 L xs fm) ia_nx (d + 5) 12 false cX12_readClause 8 (none) 202 [(0, .ref 41), (1, .int r2), (2, .int 1), (3, .int q20), (4, .ref 49), (5, .ref 1000101)] [] (h, t) (zQv zDr h0 t R) := by
                      intro S327 h hE hf
                      rw [eJ326] at hf
                      refine z_iload_n dX12_readClause_202 rfl ?_
                      refine z_bipush (v := 116) dX12_readClause_203 (by decide) ?_
                      obtain ⟨J329, eJ329, hf⟩ := zl_some hf
                      have hJ329 : ∀ (S330 : zS) (h : Nat → va_E), zE zDr h0 S330 (h, t) → J329 S330 = some R → zW (ia_P0 L xs fm) ia_nx (d + 5) 12 false cX12_readClause 8 (none) 218 [(0, .ref 41), (1, .int r2), (2, .int 1), (3, .int q20), (4, .ref 49), (5, .ref 1000101)] [] (h, t) (zQv zDr h0 t R) := by
                        intro S330 h hE hf
                        rw [eJ329] at hf
                        refine z_iconst (v := 0) dX12_readClause_218 (by decide) ?_
                        refine z_istore (lv' := [(6, .int 0), (0, .ref 41), (1, .int r2), (2, .int 1), (3, .int q20), (4, .ref 49), (5, .ref 1000101)]) dX12_readClause_219 (by decide) rfl ?_
                        refine zW.sub (w_X12_readClause_L221e hn1 hn2 d (fun q342 S341 h hE hf => ?_) zN 0 S330 h hE hf) [1, 2, 3, 4, 5, 6, 0] rfl rfl rfl rfl
                        try dsimp only at hf
                        refine z_iconst (v := 0) dX12_readClause_250 (by decide) ?_
                        refine z_istore (lv' := [(6, .int 0), (0, .ref 41), (1, .int r2), (2, .int 1), (3, .int q20), (4, .ref 49), (5, .ref 1000101)]) dX12_readClause_251 (by decide) rfl ?_
                        refine z_aload dX12_readClause_253 rfl ?_
                        refine z_aload_n dX12_readClause_255 rfl ?_
                        obtain ⟨r344, S343, k345, hf⟩ := zb_some hf
                        refine z_callVi dX12_readClause_256 tM_12_135 mt_12011 (Nat.le_of_ble_eq_true rfl) rfl rfl (z_recv hE dr_41 rfl) rfl (ia_oks_le hn1 rfl) (Nat.le_of_ble_eq_true rfl) (w_X12_look hn1 hn2 (d + 4) hE k345) (fun h hE => ?_)
                        obtain ⟨r347, S346, k348, hf⟩ := zb_some hf
                        refine z_callSi dX12_readClause_259 tM_12_237 (by decide) mt_12014 (Nat.le_of_ble_eq_true rfl) rfl rfl (ia_oks_le hn1 rfl) (Nat.le_of_ble_eq_true rfl) (w_X12_placeOf_1000101 hn1 hn2 (d + 0) hE k348) (fun h hE => ?_)
                        refine z_istore (lv' := [(7, .int r347), (6, .int 0), (0, .ref 41), (1, .int r2), (2, .int 1), (3, .int q20), (4, .ref 49), (5, .ref 1000101)]) dX12_readClause_262 (by decide) rfl ?_
                        refine zW.sub (w_X12_readClause_L264e hn1 hn2 d (fun q376 q377 S375 h hE hf => ?_) zN 0 r347 S346 h hE hf) [2, 3, 4, 5, 6, 7, 1, 0] rfl rfl rfl rfl
                        try dsimp only at hf
                        have e_ := Option.some.inj hf
                        subst e_
                        exact z_vreturn dX12_readClause_347 rfl ⟨h, rfl, rfl, hE⟩
                      by_cases c328 : ¬ r2 = 116
                      · have hf := zif_t hf c328
                        refine z_icmp_ne_t (tgt := 218) dX12_readClause_205 (by decide) c328 ?_
                        exact zW.sub (hJ329 S327 _ hE hf) [0, 1, 2, 3, 4, 5] rfl rfl rfl rfl
                      · have hf := zif_f hf c328
                        refine z_icmp_ne_f (tgt := 218) dX12_readClause_205 (by decide) c328 ?_
                        refine z_aload_n dX12_readClause_208 rfl ?_
                        refine z_dup dX12_readClause_209 rfl ?_
                        refine z_getI dX12_readClause_210 tF_12_224 hE dr_41 rfl rfl ?_
                        refine z_iconst (v := 1) dX12_readClause_213 (by decide) ?_
                        refine z_iadd dX12_readClause_214 ?_
                        obtain ⟨S378, eS378, hf⟩ := zl_some hf
                        refine z_putI dX12_readClause_215 tF_12_224 hE dr_41 rfl rfl rfl rfl (fun h hE => ?_)
                        rw [← eS378] at hE
                        exact zW.sub (hJ329 S378 _ hE hf) [0, 1, 2, 3, 4, 5] rfl rfl rfl rfl
                    by_cases c325 : ¬ r2 = 104
                    · have hf := zif_t hf c325
                      refine z_icmp_ne_t (tgt := 202) dX12_readClause_189 (by decide) c325 ?_
                      exact zW.sub (hJ326 S324 _ hE hf) [0, 1, 2, 3, 4, 5] rfl rfl rfl rfl
                    · have hf := zif_f hf c325
                      refine z_icmp_ne_f (tgt := 202) dX12_readClause_189 (by decide) c325 ?_
                      refine z_aload_n dX12_readClause_192 rfl ?_
                      refine z_dup dX12_readClause_193 rfl ?_
                      refine z_getI dX12_readClause_194 tF_12_221 hE dr_41 rfl rfl ?_
                      refine z_iconst (v := 1) dX12_readClause_197 (by decide) ?_
                      refine z_iadd dX12_readClause_198 ?_
                      obtain ⟨S379, eS379, hf⟩ := zl_some hf
                      refine z_putI dX12_readClause_199 tF_12_221 hE dr_41 rfl rfl rfl rfl (fun h hE => ?_)
                      rw [← eS379] at hE
                      exact zW.sub (hJ326 S379 _ hE hf) [0, 1, 2, 3, 4, 5] rfl rfl rfl rfl
                  by_cases c322 : ¬ r2 = 106
                  · have hf := zif_t hf c322
                    refine z_icmp_ne_t (tgt := 186) dX12_readClause_173 (by decide) c322 ?_
                    exact zW.sub (hJ323 S17 _ hE hf) [3, 4, 5, 2, 1, 0] rfl rfl rfl rfl
                  · have hf := zif_f hf c322
                    refine z_icmp_ne_f (tgt := 186) dX12_readClause_173 (by decide) c322 ?_
                    refine z_aload_n dX12_readClause_176 rfl ?_
                    refine z_dup dX12_readClause_177 rfl ?_
                    refine z_getI dX12_readClause_178 tF_12_218 hE dr_41 rfl rfl ?_
                    refine z_iconst (v := 1) dX12_readClause_181 (by decide) ?_
                    refine z_iadd dX12_readClause_182 ?_
                    obtain ⟨S380, eS380, hf⟩ := zl_some hf
                    refine z_putI dX12_readClause_183 tF_12_218 hE dr_41 rfl rfl rfl rfl (fun h hE => ?_)
                    rw [← eS380] at hE
                    exact zW.sub (hJ323 S380 _ hE hf) [3, 4, 5, 2, 1, 0] rfl rfl rfl rfl
            · have hf := zif_f hf c21
              refine z_icmp_ne_f (tgt := 125) dX12_readClause_115 (by decide) c21 ?_
              refine z_aload_n dX12_readClause_118 rfl ?_
              refine z_getC dX12_readClause_119 tF_12_40 hE dr_41 rfl rfl ?_
              refine z_goto (tgt := 142) dX12_readClause_122 (by decide) ?_
              refine z_astore (lv' := [(4, .ref 47), (3, .int q20), (0, .ref 41), (1, .int r2), (2, .int 1)]) dX12_readClause_142 (by decide) rfl ?_
              refine z_iload_n dX12_readClause_144 rfl ?_
              refine z_bipush (v := 106) dX12_readClause_145 (by decide) ?_
              by_cases c381 : ¬ r2 = 106
              · have hf := zif_t hf c381
                refine z_icmp_ne_t (tgt := 155) dX12_readClause_147 (by decide) c381 ?_
                refine z_iload_n dX12_readClause_155 rfl ?_
                refine z_bipush (v := 104) dX12_readClause_156 (by decide) ?_
                by_cases c382 : ¬ r2 = 104
                · have hf := zif_t hf c382
                  refine z_icmp_ne_t (tgt := 166) dX12_readClause_158 (by decide) c382 ?_
                  refine z_ldcS dX12_readClause_166 tK_12_231 ?_
                  refine z_astore (lv' := [(5, .ref 1000103), (4, .ref 47), (3, .int q20), (0, .ref 41), (1, .int r2), (2, .int 1)]) dX12_readClause_168 (by decide) rfl ?_
                  refine z_iload_n dX12_readClause_170 rfl ?_
                  refine z_bipush (v := 106) dX12_readClause_171 (by decide) ?_
                  obtain ⟨J384, eJ384, hf⟩ := zl_some hf
                  have hJ384 : ∀ (S385 : zS) (h : Nat → va_E), zE zDr h0 S385 (h, t) → J384 S385 = some R → zW (ia_P0 L xs fm) ia_nx (d + 5) 12 false cX12_readClause 8 (none) 186 [(0, .ref 41), (1, .int r2), (2, .int 1), (3, .int q20), (4, .ref 47), (5, .ref 1000103)] [] (h, t) (zQv zDr h0 t R) := by
                    intro S385 h hE hf
                    rw [eJ384] at hf
                    refine z_iload_n dX12_readClause_186 rfl ?_
                    refine z_bipush (v := 104) dX12_readClause_187 (by decide) ?_
                    obtain ⟨J387, eJ387, hf⟩ := zl_some hf
                    have hJ387 : ∀ (S388 : zS) (h : Nat → va_E), zE zDr h0 S388 (h, t) → J387 S388 = some R → zW (ia_P0 L xs fm) ia_nx (d + 5) 12 false cX12_readClause 8 (none) 202 [(0, .ref 41), (1, .int r2), (2, .int 1), (3, .int q20), (4, .ref 47), (5, .ref 1000103)] [] (h, t) (zQv zDr h0 t R) := by
                      intro S388 h hE hf
                      rw [eJ387] at hf
                      refine z_iload_n dX12_readClause_202 rfl ?_
                      refine z_bipush (v := 116) dX12_readClause_203 (by decide) ?_
                      obtain ⟨J390, eJ390, hf⟩ := zl_some hf
                      have hJ390 : ∀ (S391 : zS) (h : Nat → va_E), zE zDr h0 S391 (h, t) → J390 S391 = some R → zW (ia_P0 L xs fm) ia_nx (d + 5) 12 false cX12_readClause 8 (none) 218 [(0, .ref 41), (1, .int r2), (2, .int 1), (3, .int q20), (4, .ref 47), (5, .ref 1000103)] [] (h, t) (zQv zDr h0 t R) := by
                        intro S391 h hE hf
                        rw [eJ390] at hf
                        refine z_iconst (v := 0) dX12_readClause_218 (by decide) ?_
                        refine z_istore (lv' := [(6, .int 0), (0, .ref 41), (1, .int r2), (2, .int 1), (3, .int q20), (4, .ref 47), (5, .ref 1000103)]) dX12_readClause_219 (by decide) rfl ?_
                        refine zW.sub (w_X12_readClause_L221f hn1 hn2 d (fun q403 S402 h hE hf => ?_) zN 0 S391 h hE hf) [1, 2, 3, 4, 5, 6, 0] rfl rfl rfl rfl
                        try dsimp only at hf
                        refine z_iconst (v := 0) dX12_readClause_250 (by decide) ?_
                        refine z_istore (lv' := [(6, .int 0), (0, .ref 41), (1, .int r2), (2, .int 1), (3, .int q20), (4, .ref 47), (5, .ref 1000103)]) dX12_readClause_251 (by decide) rfl ?_
                        refine z_aload dX12_readClause_253 rfl ?_
                        refine z_aload_n dX12_readClause_255 rfl ?_
                        obtain ⟨r405, S404, k406, hf⟩ := zb_some hf
                        refine z_callVi dX12_readClause_256 tM_12_135 mt_12011 (Nat.le_of_ble_eq_true rfl) rfl rfl (z_recv hE dr_41 rfl) rfl (ia_oks_le hn1 rfl) (Nat.le_of_ble_eq_true rfl) (w_X12_look hn1 hn2 (d + 4) hE k406) (fun h hE => ?_)
                        obtain ⟨r408, S407, k409, hf⟩ := zb_some hf
                        refine z_callSi dX12_readClause_259 tM_12_237 (by decide) mt_12014 (Nat.le_of_ble_eq_true rfl) rfl rfl (ia_oks_le hn1 rfl) (Nat.le_of_ble_eq_true rfl) (w_X12_placeOf_1000103 hn1 hn2 (d + 0) hE k409) (fun h hE => ?_)
                        refine z_istore (lv' := [(7, .int r408), (6, .int 0), (0, .ref 41), (1, .int r2), (2, .int 1), (3, .int q20), (4, .ref 47), (5, .ref 1000103)]) dX12_readClause_262 (by decide) rfl ?_
                        refine zW.sub (w_X12_readClause_L264f hn1 hn2 d (fun q437 q438 S436 h hE hf => ?_) zN 0 r408 S407 h hE hf) [2, 3, 4, 5, 6, 7, 1, 0] rfl rfl rfl rfl
                        try dsimp only at hf
                        have e_ := Option.some.inj hf
                        subst e_
                        exact z_vreturn dX12_readClause_347 rfl ⟨h, rfl, rfl, hE⟩
                      by_cases c389 : ¬ r2 = 116
                      · have hf := zif_t hf c389
                        refine z_icmp_ne_t (tgt := 218) dX12_readClause_205 (by decide) c389 ?_
                        exact zW.sub (hJ390 S388 _ hE hf) [0, 1, 2, 3, 4, 5] rfl rfl rfl rfl
                      · have hf := zif_f hf c389
                        refine z_icmp_ne_f (tgt := 218) dX12_readClause_205 (by decide) c389 ?_
                        refine z_aload_n dX12_readClause_208 rfl ?_
                        refine z_dup dX12_readClause_209 rfl ?_
                        refine z_getI dX12_readClause_210 tF_12_224 hE dr_41 rfl rfl ?_
                        refine z_iconst (v := 1) dX12_readClause_213 (by decide) ?_
                        refine z_iadd dX12_readClause_214 ?_
                        obtain ⟨S439, eS439, hf⟩ := zl_some hf
                        refine z_putI dX12_readClause_215 tF_12_224 hE dr_41 rfl rfl rfl rfl (fun h hE => ?_)
                        rw [← eS439] at hE
                        exact zW.sub (hJ390 S439 _ hE hf) [0, 1, 2, 3, 4, 5] rfl rfl rfl rfl
                    by_cases c386 : ¬ r2 = 104
                    · have hf := zif_t hf c386
                      refine z_icmp_ne_t (tgt := 202) dX12_readClause_189 (by decide) c386 ?_
                      exact zW.sub (hJ387 S385 _ hE hf) [0, 1, 2, 3, 4, 5] rfl rfl rfl rfl
                    · have hf := zif_f hf c386
                      refine z_icmp_ne_f (tgt := 202) dX12_readClause_189 (by decide) c386 ?_
                      refine z_aload_n dX12_readClause_192 rfl ?_
                      refine z_dup dX12_readClause_193 rfl ?_
                      refine z_getI dX12_readClause_194 tF_12_221 hE dr_41 rfl rfl ?_
                      refine z_iconst (v := 1) dX12_readClause_197 (by decide) ?_
                      refine z_iadd dX12_readClause_198 ?_
                      obtain ⟨S440, eS440, hf⟩ := zl_some hf
                      refine z_putI dX12_readClause_199 tF_12_221 hE dr_41 rfl rfl rfl rfl (fun h hE => ?_)
                      rw [← eS440] at hE
                      exact zW.sub (hJ387 S440 _ hE hf) [0, 1, 2, 3, 4, 5] rfl rfl rfl rfl
                  by_cases c383 : ¬ r2 = 106
                  · have hf := zif_t hf c383
                    refine z_icmp_ne_t (tgt := 186) dX12_readClause_173 (by decide) c383 ?_
                    exact zW.sub (hJ384 S17 _ hE hf) [3, 4, 5, 2, 1, 0] rfl rfl rfl rfl
                  · have hf := zif_f hf c383
                    refine z_icmp_ne_f (tgt := 186) dX12_readClause_173 (by decide) c383 ?_
                    refine z_aload_n dX12_readClause_176 rfl ?_
                    refine z_dup dX12_readClause_177 rfl ?_
                    refine z_getI dX12_readClause_178 tF_12_218 hE dr_41 rfl rfl ?_
                    refine z_iconst (v := 1) dX12_readClause_181 (by decide) ?_
                    refine z_iadd dX12_readClause_182 ?_
                    obtain ⟨S441, eS441, hf⟩ := zl_some hf
                    refine z_putI dX12_readClause_183 tF_12_218 hE dr_41 rfl rfl rfl rfl (fun h hE => ?_)
                    rw [← eS441] at hE
                    exact zW.sub (hJ384 S441 _ hE hf) [3, 4, 5, 2, 1, 0] rfl rfl rfl rfl
                · have hf := zif_f hf c382
                  refine z_icmp_ne_f (tgt := 166) dX12_readClause_158 (by decide) c382 ?_
                  refine z_ldcS dX12_readClause_161 tK_12_229 ?_
                  refine z_goto (tgt := 168) dX12_readClause_163 (by decide) ?_
                  refine z_astore (lv' := [(5, .ref 1000102), (4, .ref 47), (3, .int q20), (0, .ref 41), (1, .int r2), (2, .int 1)]) dX12_readClause_168 (by decide) rfl ?_
                  refine z_iload_n dX12_readClause_170 rfl ?_
                  refine z_bipush (v := 106) dX12_readClause_171 (by decide) ?_
                  obtain ⟨J443, eJ443, hf⟩ := zl_some hf
                  have hJ443 : ∀ (S444 : zS) (h : Nat → va_E), zE zDr h0 S444 (h, t) → J443 S444 = some R → zW (ia_P0 L xs fm) ia_nx (d + 5) 12 false cX12_readClause 8 (none) 186 [(0, .ref 41), (1, .int r2), (2, .int 1), (3, .int q20), (4, .ref 47), (5, .ref 1000102)] [] (h, t) (zQv zDr h0 t R) := by
                    intro S444 h hE hf
                    rw [eJ443] at hf
                    refine z_iload_n dX12_readClause_186 rfl ?_
                    refine z_bipush (v := 104) dX12_readClause_187 (by decide) ?_
                    obtain ⟨J446, eJ446, hf⟩ := zl_some hf
                    have hJ446 : ∀ (S447 : zS) (h : Nat → va_E), zE zDr h0 S447 (h, t) → J446 S447 = some R → zW (ia_P0 L xs fm) ia_nx (d + 5) 12 false cX12_readClause 8 (none) 202 [(0, .ref 41), (1, .int r2), (2, .int 1), (3, .int q20), (4, .ref 47), (5, .ref 1000102)] [] (h, t) (zQv zDr h0 t R) := by
                      intro S447 h hE hf
                      rw [eJ446] at hf
                      refine z_iload_n dX12_readClause_202 rfl ?_
                      refine z_bipush (v := 116) dX12_readClause_203 (by decide) ?_
                      obtain ⟨J449, eJ449, hf⟩ := zl_some hf
                      have hJ449 : ∀ (S450 : zS) (h : Nat → va_E), zE zDr h0 S450 (h, t) → J449 S450 = some R → zW (ia_P0 L xs fm) ia_nx (d + 5) 12 false cX12_readClause 8 (none) 218 [(0, .ref 41), (1, .int r2), (2, .int 1), (3, .int q20), (4, .ref 47), (5, .ref 1000102)] [] (h, t) (zQv zDr h0 t R) := by
                        intro S450 h hE hf
                        rw [eJ449] at hf
                        refine z_iconst (v := 0) dX12_readClause_218 (by decide) ?_
                        refine z_istore (lv' := [(6, .int 0), (0, .ref 41), (1, .int r2), (2, .int 1), (3, .int q20), (4, .ref 47), (5, .ref 1000102)]) dX12_readClause_219 (by decide) rfl ?_
                        refine zW.sub (w_X12_readClause_L221g hn1 hn2 d (fun q462 S461 h hE hf => ?_) zN 0 S450 h hE hf) [1, 2, 3, 4, 5, 6, 0] rfl rfl rfl rfl
                        try dsimp only at hf
                        refine z_iconst (v := 0) dX12_readClause_250 (by decide) ?_
                        refine z_istore (lv' := [(6, .int 0), (0, .ref 41), (1, .int r2), (2, .int 1), (3, .int q20), (4, .ref 47), (5, .ref 1000102)]) dX12_readClause_251 (by decide) rfl ?_
                        refine z_aload dX12_readClause_253 rfl ?_
                        refine z_aload_n dX12_readClause_255 rfl ?_
                        obtain ⟨r464, S463, k465, hf⟩ := zb_some hf
                        refine z_callVi dX12_readClause_256 tM_12_135 mt_12011 (Nat.le_of_ble_eq_true rfl) rfl rfl (z_recv hE dr_41 rfl) rfl (ia_oks_le hn1 rfl) (Nat.le_of_ble_eq_true rfl) (w_X12_look hn1 hn2 (d + 4) hE k465) (fun h hE => ?_)
                        obtain ⟨r467, S466, k468, hf⟩ := zb_some hf
                        refine z_callSi dX12_readClause_259 tM_12_237 (by decide) mt_12014 (Nat.le_of_ble_eq_true rfl) rfl rfl (ia_oks_le hn1 rfl) (Nat.le_of_ble_eq_true rfl) (w_X12_placeOf_1000102 hn1 hn2 (d + 0) hE k468) (fun h hE => ?_)
                        refine z_istore (lv' := [(7, .int r467), (6, .int 0), (0, .ref 41), (1, .int r2), (2, .int 1), (3, .int q20), (4, .ref 47), (5, .ref 1000102)]) dX12_readClause_262 (by decide) rfl ?_
                        refine zW.sub (w_X12_readClause_L264g hn1 hn2 d (fun q496 q497 S495 h hE hf => ?_) zN 0 r467 S466 h hE hf) [2, 3, 4, 5, 6, 7, 1, 0] rfl rfl rfl rfl
                        try dsimp only at hf
                        have e_ := Option.some.inj hf
                        subst e_
                        exact z_vreturn dX12_readClause_347 rfl ⟨h, rfl, rfl, hE⟩
                      by_cases c448 : ¬ r2 = 116
                      · have hf := zif_t hf c448
                        refine z_icmp_ne_t (tgt := 218) dX12_readClause_205 (by decide) c448 ?_
                        exact zW.sub (hJ449 S447 _ hE hf) [0, 1, 2, 3, 4, 5] rfl rfl rfl rfl
                      · have hf := zif_f hf c448
                        refine z_icmp_ne_f (tgt := 218) dX12_readClause_205 (by decide) c448 ?_
                        refine z_aload_n dX12_readClause_208 rfl ?_
                        refine z_dup dX12_readClause_209 rfl ?_
                        refine z_getI dX12_readClause_210 tF_12_224 hE dr_41 rfl rfl ?_
                        refine z_iconst (v := 1) dX12_readClause_213 (by decide) ?_
                        refine z_iadd dX12_readClause_214 ?_
                        obtain ⟨S498, eS498, hf⟩ := zl_some hf
                        refine z_putI dX12_readClause_215 tF_12_224 hE dr_41 rfl rfl rfl rfl (fun h hE => ?_)
                        rw [← eS498] at hE
                        exact zW.sub (hJ449 S498 _ hE hf) [0, 1, 2, 3, 4, 5] rfl rfl rfl rfl
                    by_cases c445 : ¬ r2 = 104
                    · have hf := zif_t hf c445
                      refine z_icmp_ne_t (tgt := 202) dX12_readClause_189 (by decide) c445 ?_
                      exact zW.sub (hJ446 S444 _ hE hf) [0, 1, 2, 3, 4, 5] rfl rfl rfl rfl
                    · have hf := zif_f hf c445
                      refine z_icmp_ne_f (tgt := 202) dX12_readClause_189 (by decide) c445 ?_
                      refine z_aload_n dX12_readClause_192 rfl ?_
                      refine z_dup dX12_readClause_193 rfl ?_
                      refine z_getI dX12_readClause_194 tF_12_221 hE dr_41 rfl rfl ?_
                      refine z_iconst (v := 1) dX12_readClause_197 (by decide) ?_
                      refine z_iadd dX12_readClause_198 ?_
                      obtain ⟨S499, eS499, hf⟩ := zl_some hf
                      refine z_putI dX12_readClause_199 tF_12_221 hE dr_41 rfl rfl rfl rfl (fun h hE => ?_)
                      rw [← eS499] at hE
                      exact zW.sub (hJ446 S499 _ hE hf) [0, 1, 2, 3, 4, 5] rfl rfl rfl rfl
                  by_cases c442 : ¬ r2 = 106
                  · have hf := zif_t hf c442
                    refine z_icmp_ne_t (tgt := 186) dX12_readClause_173 (by decide) c442 ?_
                    exact zW.sub (hJ443 S17 _ hE hf) [3, 4, 5, 2, 1, 0] rfl rfl rfl rfl
                  · have hf := zif_f hf c442
                    refine z_icmp_ne_f (tgt := 186) dX12_readClause_173 (by decide) c442 ?_
                    refine z_aload_n dX12_readClause_176 rfl ?_
                    refine z_dup dX12_readClause_177 rfl ?_
                    refine z_getI dX12_readClause_178 tF_12_218 hE dr_41 rfl rfl ?_
                    refine z_iconst (v := 1) dX12_readClause_181 (by decide) ?_
                    refine z_iadd dX12_readClause_182 ?_
                    obtain ⟨S500, eS500, hf⟩ := zl_some hf
                    refine z_putI dX12_readClause_183 tF_12_218 hE dr_41 rfl rfl rfl rfl (fun h hE => ?_)
                    rw [← eS500] at hE
                    exact zW.sub (hJ443 S500 _ hE hf) [3, 4, 5, 2, 1, 0] rfl rfl rfl rfl
              · have hf := zif_f hf c381
                refine z_icmp_ne_f (tgt := 155) dX12_readClause_147 (by decide) c381 ?_
                refine z_ldcS dX12_readClause_150 tK_12_227 ?_
                refine z_goto (tgt := 168) dX12_readClause_152 (by decide) ?_
                refine z_astore (lv' := [(5, .ref 1000101), (4, .ref 47), (3, .int q20), (0, .ref 41), (1, .int r2), (2, .int 1)]) dX12_readClause_168 (by decide) rfl ?_
                refine z_iload_n dX12_readClause_170 rfl ?_
                refine z_bipush (v := 106) dX12_readClause_171 (by decide) ?_
                obtain ⟨J502, eJ502, hf⟩ := zl_some hf
                have hJ502 : ∀ (S503 : zS) (h : Nat → va_E), zE zDr h0 S503 (h, t) → J502 S503 = some R → zW (ia_P0 L xs fm) ia_nx (d + 5) 12 false cX12_readClause 8 (none) 186 [(0, .ref 41), (1, .int r2), (2, .int 1), (3, .int q20), (4, .ref 47), (5, .ref 1000101)] [] (h, t) (zQv zDr h0 t R) := by
                  intro S503 h hE hf
                  rw [eJ502] at hf
                  refine z_iload_n dX12_readClause_186 rfl ?_
                  refine z_bipush (v := 104) dX12_readClause_187 (by decide) ?_
                  obtain ⟨J505, eJ505, hf⟩ := zl_some hf
                  have hJ505 : ∀ (S506 : zS) (h : Nat → va_E), zE zDr h0 S506 (h, t) → J505 S506 = some R → zW (ia_P0 L xs fm) ia_nx (d + 5) 12 false cX12_readClause 8 (none) 202 [(0, .ref 41), (1, .int r2), (2, .int 1), (3, .int q20), (4, .ref 47), (5, .ref 1000101)] [] (h, t) (zQv zDr h0 t R) := by
                    intro S506 h hE hf
                    rw [eJ505] at hf
                    refine z_iload_n dX12_readClause_202 rfl ?_
                    refine z_bipush (v := 116) dX12_readClause_203 (by decide) ?_
                    obtain ⟨J508, eJ508, hf⟩ := zl_some hf
                    have hJ508 : ∀ (S509 : zS) (h : Nat → va_E), zE zDr h0 S509 (h, t) → J508 S509 = some R → zW (ia_P0 L xs fm) ia_nx (d + 5) 12 false cX12_readClause 8 (none) 218 [(0, .ref 41), (1, .int r2), (2, .int 1), (3, .int q20), (4, .ref 47), (5, .ref 1000101)] [] (h, t) (zQv zDr h0 t R) := by
                      intro S509 h hE hf
                      rw [eJ508] at hf
                      refine z_iconst (v := 0) dX12_readClause_218 (by decide) ?_
                      refine z_istore (lv' := [(6, .int 0), (0, .ref 41), (1, .int r2), (2, .int 1), (3, .int q20), (4, .ref 47), (5, .ref 1000101)]) dX12_readClause_219 (by decide) rfl ?_
                      refine zW.sub (w_X12_readClause_L221h hn1 hn2 d (fun q521 S520 h hE hf => ?_) zN 0 S509 h hE hf) [1, 2, 3, 4, 5, 6, 0] rfl rfl rfl rfl
                      try dsimp only at hf
                      refine z_iconst (v := 0) dX12_readClause_250 (by decide) ?_
                      refine z_istore (lv' := [(6, .int 0), (0, .ref 41), (1, .int r2), (2, .int 1), (3, .int q20), (4, .ref 47), (5, .ref 1000101)]) dX12_readClause_251 (by decide) rfl ?_
                      refine z_aload dX12_readClause_253 rfl ?_
                      refine z_aload_n dX12_readClause_255 rfl ?_
                      obtain ⟨r523, S522, k524, hf⟩ := zb_some hf
                      refine z_callVi dX12_readClause_256 tM_12_135 mt_12011 (Nat.le_of_ble_eq_true rfl) rfl rfl (z_recv hE dr_41 rfl) rfl (ia_oks_le hn1 rfl) (Nat.le_of_ble_eq_true rfl) (w_X12_look hn1 hn2 (d + 4) hE k524) (fun h hE => ?_)
                      obtain ⟨r526, S525, k527, hf⟩ := zb_some hf
                      refine z_callSi dX12_readClause_259 tM_12_237 (by decide) mt_12014 (Nat.le_of_ble_eq_true rfl) rfl rfl (ia_oks_le hn1 rfl) (Nat.le_of_ble_eq_true rfl) (w_X12_placeOf_1000101 hn1 hn2 (d + 0) hE k527) (fun h hE => ?_)
                      refine z_istore (lv' := [(7, .int r526), (6, .int 0), (0, .ref 41), (1, .int r2), (2, .int 1), (3, .int q20), (4, .ref 47), (5, .ref 1000101)]) dX12_readClause_262 (by decide) rfl ?_
                      refine zW.sub (w_X12_readClause_L264h hn1 hn2 d (fun q555 q556 S554 h hE hf => ?_) zN 0 r526 S525 h hE hf) [2, 3, 4, 5, 6, 7, 1, 0] rfl rfl rfl rfl
                      try dsimp only at hf
                      have e_ := Option.some.inj hf
                      subst e_
                      exact z_vreturn dX12_readClause_347 rfl ⟨h, rfl, rfl, hE⟩
                    by_cases c507 : ¬ r2 = 116
                    · have hf := zif_t hf c507
                      refine z_icmp_ne_t (tgt := 218) dX12_readClause_205 (by decide) c507 ?_
                      exact zW.sub (hJ508 S506 _ hE hf) [0, 1, 2, 3, 4, 5] rfl rfl rfl rfl
                    · have hf := zif_f hf c507
                      refine z_icmp_ne_f (tgt := 218) dX12_readClause_205 (by decide) c507 ?_
                      refine z_aload_n dX12_readClause_208 rfl ?_
                      refine z_dup dX12_readClause_209 rfl ?_
                      refine z_getI dX12_readClause_210 tF_12_224 hE dr_41 rfl rfl ?_
                      refine z_iconst (v := 1) dX12_readClause_213 (by decide) ?_
                      refine z_iadd dX12_readClause_214 ?_
                      obtain ⟨S557, eS557, hf⟩ := zl_some hf
                      refine z_putI dX12_readClause_215 tF_12_224 hE dr_41 rfl rfl rfl rfl (fun h hE => ?_)
                      rw [← eS557] at hE
                      exact zW.sub (hJ508 S557 _ hE hf) [0, 1, 2, 3, 4, 5] rfl rfl rfl rfl
                  by_cases c504 : ¬ r2 = 104
                  · have hf := zif_t hf c504
                    refine z_icmp_ne_t (tgt := 202) dX12_readClause_189 (by decide) c504 ?_
                    exact zW.sub (hJ505 S503 _ hE hf) [0, 1, 2, 3, 4, 5] rfl rfl rfl rfl
                  · have hf := zif_f hf c504
                    refine z_icmp_ne_f (tgt := 202) dX12_readClause_189 (by decide) c504 ?_
                    refine z_aload_n dX12_readClause_192 rfl ?_
                    refine z_dup dX12_readClause_193 rfl ?_
                    refine z_getI dX12_readClause_194 tF_12_221 hE dr_41 rfl rfl ?_
                    refine z_iconst (v := 1) dX12_readClause_197 (by decide) ?_
                    refine z_iadd dX12_readClause_198 ?_
                    obtain ⟨S558, eS558, hf⟩ := zl_some hf
                    refine z_putI dX12_readClause_199 tF_12_221 hE dr_41 rfl rfl rfl rfl (fun h hE => ?_)
                    rw [← eS558] at hE
                    exact zW.sub (hJ505 S558 _ hE hf) [0, 1, 2, 3, 4, 5] rfl rfl rfl rfl
                by_cases c501 : ¬ r2 = 106
                · have hf := zif_t hf c501
                  refine z_icmp_ne_t (tgt := 186) dX12_readClause_173 (by decide) c501 ?_
                  exact zW.sub (hJ502 S17 _ hE hf) [3, 4, 5, 2, 1, 0] rfl rfl rfl rfl
                · have hf := zif_f hf c501
                  refine z_icmp_ne_f (tgt := 186) dX12_readClause_173 (by decide) c501 ?_
                  refine z_aload_n dX12_readClause_176 rfl ?_
                  refine z_dup dX12_readClause_177 rfl ?_
                  refine z_getI dX12_readClause_178 tF_12_218 hE dr_41 rfl rfl ?_
                  refine z_iconst (v := 1) dX12_readClause_181 (by decide) ?_
                  refine z_iadd dX12_readClause_182 ?_
                  obtain ⟨S559, eS559, hf⟩ := zl_some hf
                  refine z_putI dX12_readClause_183 tF_12_218 hE dr_41 rfl rfl rfl rfl (fun h hE => ?_)
                  rw [← eS559] at hE
                  exact zW.sub (hJ502 S559 _ hE hf) [3, 4, 5, 2, 1, 0] rfl rfl rfl rfl
          by_cases c18 : ¬ r2 = 106
          · have hf := zif_t hf c18
            refine z_icmp_ne_t (tgt := 90) dX12_readClause_77 (by decide) c18 ?_
            refine z_iload_n dX12_readClause_90 rfl ?_
            refine z_bipush (v := 104) dX12_readClause_91 (by decide) ?_
            by_cases c560 : ¬ r2 = 104
            · have hf := zif_t hf c560
              refine z_icmp_ne_t (tgt := 105) dX12_readClause_93 (by decide) c560 ?_
              refine z_iconst (v := 2) dX12_readClause_105 (by decide) ?_
              refine z_aload_n dX12_readClause_106 rfl ?_
              refine z_getI dX12_readClause_107 tF_12_224 hE dr_41 rfl rfl ?_
              refine z_imul dX12_readClause_110 ?_
              exact zW.sub (hJ19 (2 * (S17.1 41 29)) _ hE hf) [1, 2, 0] rfl rfl rfl rfl
            · have hf := zif_f hf c560
              refine z_icmp_ne_f (tgt := 105) dX12_readClause_93 (by decide) c560 ?_
              refine z_iconst (v := 5) dX12_readClause_96 (by decide) ?_
              refine z_aload_n dX12_readClause_97 rfl ?_
              refine z_getI dX12_readClause_98 tF_12_221 hE dr_41 rfl rfl ?_
              refine z_imul dX12_readClause_101 ?_
              refine z_goto (tgt := 111) dX12_readClause_102 (by decide) ?_
              exact zW.sub (hJ19 (5 * (S17.1 41 28)) _ hE hf) [1, 2, 0] rfl rfl rfl rfl
          · have hf := zif_f hf c18
            refine z_icmp_ne_f (tgt := 90) dX12_readClause_77 (by decide) c18 ?_
            refine z_bipush (v := 6) dX12_readClause_80 (by decide) ?_
            refine z_aload_n dX12_readClause_82 rfl ?_
            refine z_getI dX12_readClause_83 tF_12_218 hE dr_41 rfl rfl ?_
            refine z_imul dX12_readClause_86 ?_
            refine z_goto (tgt := 111) dX12_readClause_87 (by decide) ?_
            exact zW.sub (hJ19 (6 * (S17.1 41 27)) _ hE hf) [1, 2, 0] rfl rfl rfl rfl
    by_cases c7 : ¬ r2 = 104
    · have hf := zif_t hf c7
      refine z_icmp_ne_t (tgt := 34) dX12_readClause_22 (by decide) c7 ?_
      exact zW.sub (hJ8 () _ hE hf) [0, 1] rfl rfl rfl rfl
    · have hf := zif_f hf c7
      refine z_icmp_ne_f (tgt := 34) dX12_readClause_22 (by decide) c7 ?_
      refine z_aload_n dX12_readClause_25 rfl ?_
      refine z_getI dX12_readClause_26 tF_12_221 hE dr_41 rfl rfl ?_
      refine z_bipush (v := 6) dX12_readClause_29 (by decide) ?_
      by_cases c561 : (S1.1 41 28) < 6
      · have hf := zif_t hf c561
        refine z_icmp_lt_t (tgt := 48) dX12_readClause_31 (by decide) c561 ?_
        refine z_iconst (v := 1) dX12_readClause_48 (by decide) ?_
        refine z_goto (tgt := 53) dX12_readClause_49 (by decide) ?_
        refine z_istore_n (lv' := [(2, .int 1), (0, .ref 41), (1, .int r2)]) dX12_readClause_53 (by decide) rfl ?_
        refine z_iload_n dX12_readClause_54 rfl ?_
        refine z_if_ne_t (tgt := 64) dX12_readClause_55 (by decide) (by decide) ?_
        refine z_aload_n dX12_readClause_64 rfl ?_
        refine z_dup dX12_readClause_65 rfl ?_
        refine z_getI dX12_readClause_66 tF_12_116 hE dr_41 rfl rfl ?_
        refine z_iconst (v := 1) dX12_readClause_69 (by decide) ?_
        refine z_iadd dX12_readClause_70 ?_
        obtain ⟨S562, eS562, hf⟩ := zl_some hf
        refine z_putI dX12_readClause_71 tF_12_116 hE dr_41 rfl rfl rfl rfl (fun h hE => ?_)
        rw [← eS562] at hE
        refine z_iload_n dX12_readClause_74 rfl ?_
        refine z_bipush (v := 106) dX12_readClause_75 (by decide) ?_
        obtain ⟨J564, eJ564, hf⟩ := zl_some hf
        have hJ564 : ∀ (q565 : Int32) (h : Nat → va_E), zE zDr h0 S562 (h, t) → J564 q565 = some R → zW (ia_P0 L xs fm) ia_nx (d + 5) 12 false cX12_readClause 8 (none) 111 [(0, .ref 41), (1, .int r2), (2, .int 1)] [.int q565] (h, t) (zQv zDr h0 t R) := by
          intro q565 h hE hf
          rw [eJ564] at hf
          refine z_istore_n (lv' := [(3, .int q565), (0, .ref 41), (1, .int r2), (2, .int 1)]) dX12_readClause_111 (by decide) rfl ?_
          refine z_iload_n dX12_readClause_112 rfl ?_
          refine z_bipush (v := 106) dX12_readClause_113 (by decide) ?_
          by_cases c566 : ¬ r2 = 106
          · have hf := zif_t hf c566
            refine z_icmp_ne_t (tgt := 125) dX12_readClause_115 (by decide) c566 ?_
            refine z_iload_n dX12_readClause_125 rfl ?_
            refine z_bipush (v := 104) dX12_readClause_126 (by decide) ?_
            by_cases c567 : ¬ r2 = 104
            · have hf := zif_t hf c567
              refine z_icmp_ne_t (tgt := 138) dX12_readClause_128 (by decide) c567 ?_
              refine z_aload_n dX12_readClause_138 rfl ?_
              refine z_getC dX12_readClause_139 tF_12_52 hE dr_41 rfl rfl ?_
              refine z_astore (lv' := [(4, .ref 51), (3, .int q565), (0, .ref 41), (1, .int r2), (2, .int 1)]) dX12_readClause_142 (by decide) rfl ?_
              refine z_iload_n dX12_readClause_144 rfl ?_
              refine z_bipush (v := 106) dX12_readClause_145 (by decide) ?_
              by_cases c568 : ¬ r2 = 106
              · have hf := zif_t hf c568
                refine z_icmp_ne_t (tgt := 155) dX12_readClause_147 (by decide) c568 ?_
                refine z_iload_n dX12_readClause_155 rfl ?_
                refine z_bipush (v := 104) dX12_readClause_156 (by decide) ?_
                by_cases c569 : ¬ r2 = 104
                · have hf := zif_t hf c569
                  refine z_icmp_ne_t (tgt := 166) dX12_readClause_158 (by decide) c569 ?_
                  refine z_ldcS dX12_readClause_166 tK_12_231 ?_
                  refine z_astore (lv' := [(5, .ref 1000103), (4, .ref 51), (3, .int q565), (0, .ref 41), (1, .int r2), (2, .int 1)]) dX12_readClause_168 (by decide) rfl ?_
                  refine z_iload_n dX12_readClause_170 rfl ?_
                  refine z_bipush (v := 106) dX12_readClause_171 (by decide) ?_
                  obtain ⟨J571, eJ571, hf⟩ := zl_some hf
                  have hJ571 : ∀ (S572 : zS) (h : Nat → va_E), zE zDr h0 S572 (h, t) → J571 S572 = some R → zW (ia_P0 L xs fm) ia_nx (d + 5) 12 false cX12_readClause 8 (none) 186 [(0, .ref 41), (1, .int r2), (2, .int 1), (3, .int q565), (4, .ref 51), (5, .ref 1000103)] [] (h, t) (zQv zDr h0 t R) := by
                    intro S572 h hE hf
                    rw [eJ571] at hf
                    refine z_iload_n dX12_readClause_186 rfl ?_
                    refine z_bipush (v := 104) dX12_readClause_187 (by decide) ?_
                    obtain ⟨J574, eJ574, hf⟩ := zl_some hf
                    have hJ574 : ∀ (S575 : zS) (h : Nat → va_E), zE zDr h0 S575 (h, t) → J574 S575 = some R → zW (ia_P0 L xs fm) ia_nx (d + 5) 12 false cX12_readClause 8 (none) 202 [(0, .ref 41), (1, .int r2), (2, .int 1), (3, .int q565), (4, .ref 51), (5, .ref 1000103)] [] (h, t) (zQv zDr h0 t R) := by
                      intro S575 h hE hf
                      rw [eJ574] at hf
                      refine z_iload_n dX12_readClause_202 rfl ?_
                      refine z_bipush (v := 116) dX12_readClause_203 (by decide) ?_
                      obtain ⟨J577, eJ577, hf⟩ := zl_some hf
                      have hJ577 : ∀ (S578 : zS) (h : Nat → va_E), zE zDr h0 S578 (h, t) → J577 S578 = some R → zW (ia_P0 L xs fm) ia_nx (d + 5) 12 false cX12_readClause 8 (none) 218 [(0, .ref 41), (1, .int r2), (2, .int 1), (3, .int q565), (4, .ref 51), (5, .ref 1000103)] [] (h, t) (zQv zDr h0 t R) := by
                        intro S578 h hE hf
                        rw [eJ577] at hf
                        refine z_iconst (v := 0) dX12_readClause_218 (by decide) ?_
                        refine z_istore (lv' := [(6, .int 0), (0, .ref 41), (1, .int r2), (2, .int 1), (3, .int q565), (4, .ref 51), (5, .ref 1000103)]) dX12_readClause_219 (by decide) rfl ?_
                        refine zW.sub (w_X12_readClause_L221 hn1 hn2 d (fun q590 S589 h hE hf => ?_) zN 0 S578 h hE hf) [1, 2, 3, 4, 5, 6, 0] rfl rfl rfl rfl
                        try dsimp only at hf
                        refine z_iconst (v := 0) dX12_readClause_250 (by decide) ?_
                        refine z_istore (lv' := [(6, .int 0), (0, .ref 41), (1, .int r2), (2, .int 1), (3, .int q565), (4, .ref 51), (5, .ref 1000103)]) dX12_readClause_251 (by decide) rfl ?_
                        refine z_aload dX12_readClause_253 rfl ?_
                        refine z_aload_n dX12_readClause_255 rfl ?_
                        obtain ⟨r592, S591, k593, hf⟩ := zb_some hf
                        refine z_callVi dX12_readClause_256 tM_12_135 mt_12011 (Nat.le_of_ble_eq_true rfl) rfl rfl (z_recv hE dr_41 rfl) rfl (ia_oks_le hn1 rfl) (Nat.le_of_ble_eq_true rfl) (w_X12_look hn1 hn2 (d + 4) hE k593) (fun h hE => ?_)
                        obtain ⟨r595, S594, k596, hf⟩ := zb_some hf
                        refine z_callSi dX12_readClause_259 tM_12_237 (by decide) mt_12014 (Nat.le_of_ble_eq_true rfl) rfl rfl (ia_oks_le hn1 rfl) (Nat.le_of_ble_eq_true rfl) (w_X12_placeOf_1000103 hn1 hn2 (d + 0) hE k596) (fun h hE => ?_)
                        refine z_istore (lv' := [(7, .int r595), (6, .int 0), (0, .ref 41), (1, .int r2), (2, .int 1), (3, .int q565), (4, .ref 51), (5, .ref 1000103)]) dX12_readClause_262 (by decide) rfl ?_
                        refine zW.sub (w_X12_readClause_L264 hn1 hn2 d (fun q624 q625 S623 h hE hf => ?_) zN 0 r595 S594 h hE hf) [2, 3, 4, 5, 6, 7, 1, 0] rfl rfl rfl rfl
                        try dsimp only at hf
                        have e_ := Option.some.inj hf
                        subst e_
                        exact z_vreturn dX12_readClause_347 rfl ⟨h, rfl, rfl, hE⟩
                      by_cases c576 : ¬ r2 = 116
                      · have hf := zif_t hf c576
                        refine z_icmp_ne_t (tgt := 218) dX12_readClause_205 (by decide) c576 ?_
                        exact zW.sub (hJ577 S575 _ hE hf) [0, 1, 2, 3, 4, 5] rfl rfl rfl rfl
                      · have hf := zif_f hf c576
                        refine z_icmp_ne_f (tgt := 218) dX12_readClause_205 (by decide) c576 ?_
                        refine z_aload_n dX12_readClause_208 rfl ?_
                        refine z_dup dX12_readClause_209 rfl ?_
                        refine z_getI dX12_readClause_210 tF_12_224 hE dr_41 rfl rfl ?_
                        refine z_iconst (v := 1) dX12_readClause_213 (by decide) ?_
                        refine z_iadd dX12_readClause_214 ?_
                        obtain ⟨S626, eS626, hf⟩ := zl_some hf
                        refine z_putI dX12_readClause_215 tF_12_224 hE dr_41 rfl rfl rfl rfl (fun h hE => ?_)
                        rw [← eS626] at hE
                        exact zW.sub (hJ577 S626 _ hE hf) [0, 1, 2, 3, 4, 5] rfl rfl rfl rfl
                    by_cases c573 : ¬ r2 = 104
                    · have hf := zif_t hf c573
                      refine z_icmp_ne_t (tgt := 202) dX12_readClause_189 (by decide) c573 ?_
                      exact zW.sub (hJ574 S572 _ hE hf) [0, 1, 2, 3, 4, 5] rfl rfl rfl rfl
                    · have hf := zif_f hf c573
                      refine z_icmp_ne_f (tgt := 202) dX12_readClause_189 (by decide) c573 ?_
                      refine z_aload_n dX12_readClause_192 rfl ?_
                      refine z_dup dX12_readClause_193 rfl ?_
                      refine z_getI dX12_readClause_194 tF_12_221 hE dr_41 rfl rfl ?_
                      refine z_iconst (v := 1) dX12_readClause_197 (by decide) ?_
                      refine z_iadd dX12_readClause_198 ?_
                      obtain ⟨S627, eS627, hf⟩ := zl_some hf
                      refine z_putI dX12_readClause_199 tF_12_221 hE dr_41 rfl rfl rfl rfl (fun h hE => ?_)
                      rw [← eS627] at hE
                      exact zW.sub (hJ574 S627 _ hE hf) [0, 1, 2, 3, 4, 5] rfl rfl rfl rfl
                  by_cases c570 : ¬ r2 = 106
                  · have hf := zif_t hf c570
                    refine z_icmp_ne_t (tgt := 186) dX12_readClause_173 (by decide) c570 ?_
                    exact zW.sub (hJ571 S562 _ hE hf) [3, 4, 5, 2, 1, 0] rfl rfl rfl rfl
                  · have hf := zif_f hf c570
                    refine z_icmp_ne_f (tgt := 186) dX12_readClause_173 (by decide) c570 ?_
                    refine z_aload_n dX12_readClause_176 rfl ?_
                    refine z_dup dX12_readClause_177 rfl ?_
                    refine z_getI dX12_readClause_178 tF_12_218 hE dr_41 rfl rfl ?_
                    refine z_iconst (v := 1) dX12_readClause_181 (by decide) ?_
                    refine z_iadd dX12_readClause_182 ?_
                    obtain ⟨S628, eS628, hf⟩ := zl_some hf
                    refine z_putI dX12_readClause_183 tF_12_218 hE dr_41 rfl rfl rfl rfl (fun h hE => ?_)
                    rw [← eS628] at hE
                    exact zW.sub (hJ571 S628 _ hE hf) [3, 4, 5, 2, 1, 0] rfl rfl rfl rfl
                · have hf := zif_f hf c569
                  refine z_icmp_ne_f (tgt := 166) dX12_readClause_158 (by decide) c569 ?_
                  refine z_ldcS dX12_readClause_161 tK_12_229 ?_
                  refine z_goto (tgt := 168) dX12_readClause_163 (by decide) ?_
                  refine z_astore (lv' := [(5, .ref 1000102), (4, .ref 51), (3, .int q565), (0, .ref 41), (1, .int r2), (2, .int 1)]) dX12_readClause_168 (by decide) rfl ?_
                  refine z_iload_n dX12_readClause_170 rfl ?_
                  refine z_bipush (v := 106) dX12_readClause_171 (by decide) ?_
                  obtain ⟨J630, eJ630, hf⟩ := zl_some hf
                  have hJ630 : ∀ (S631 : zS) (h : Nat → va_E), zE zDr h0 S631 (h, t) → J630 S631 = some R → zW (ia_P0 L xs fm) ia_nx (d + 5) 12 false cX12_readClause 8 (none) 186 [(0, .ref 41), (1, .int r2), (2, .int 1), (3, .int q565), (4, .ref 51), (5, .ref 1000102)] [] (h, t) (zQv zDr h0 t R) := by
                    intro S631 h hE hf
                    rw [eJ630] at hf
                    refine z_iload_n dX12_readClause_186 rfl ?_
                    refine z_bipush (v := 104) dX12_readClause_187 (by decide) ?_
                    obtain ⟨J633, eJ633, hf⟩ := zl_some hf
                    have hJ633 : ∀ (S634 : zS) (h : Nat → va_E), zE zDr h0 S634 (h, t) → J633 S634 = some R → zW (ia_P0 L xs fm) ia_nx (d + 5) 12 false cX12_readClause 8 (none) 202 [(0, .ref 41), (1, .int r2), (2, .int 1), (3, .int q565), (4, .ref 51), (5, .ref 1000102)] [] (h, t) (zQv zDr h0 t R) := by
                      intro S634 h hE hf
                      rw [eJ633] at hf
                      refine z_iload_n dX12_readClause_202 rfl ?_
                      refine z_bipush (v := 116) dX12_readClause_203 (by decide) ?_
                      obtain ⟨J636, eJ636, hf⟩ := zl_some hf
                      have hJ636 : ∀ (S637 : zS) (h : Nat → va_E), zE zDr h0 S637 (h, t) → J636 S637 = some R → zW (ia_P0 L xs fm) ia_nx (d + 5) 12 false cX12_readClause 8 (none) 218 [(0, .ref 41), (1, .int r2), (2, .int 1), (3, .int q565), (4, .ref 51), (5, .ref 1000102)] [] (h, t) (zQv zDr h0 t R) := by
                        intro S637 h hE hf
                        rw [eJ636] at hf
                        refine z_iconst (v := 0) dX12_readClause_218 (by decide) ?_
                        refine z_istore (lv' := [(6, .int 0), (0, .ref 41), (1, .int r2), (2, .int 1), (3, .int q565), (4, .ref 51), (5, .ref 1000102)]) dX12_readClause_219 (by decide) rfl ?_
                        refine zW.sub (w_X12_readClause_L221a hn1 hn2 d (fun q649 S648 h hE hf => ?_) zN 0 S637 h hE hf) [1, 2, 3, 4, 5, 6, 0] rfl rfl rfl rfl
                        try dsimp only at hf
                        refine z_iconst (v := 0) dX12_readClause_250 (by decide) ?_
                        refine z_istore (lv' := [(6, .int 0), (0, .ref 41), (1, .int r2), (2, .int 1), (3, .int q565), (4, .ref 51), (5, .ref 1000102)]) dX12_readClause_251 (by decide) rfl ?_
                        refine z_aload dX12_readClause_253 rfl ?_
                        refine z_aload_n dX12_readClause_255 rfl ?_
                        obtain ⟨r651, S650, k652, hf⟩ := zb_some hf
                        refine z_callVi dX12_readClause_256 tM_12_135 mt_12011 (Nat.le_of_ble_eq_true rfl) rfl rfl (z_recv hE dr_41 rfl) rfl (ia_oks_le hn1 rfl) (Nat.le_of_ble_eq_true rfl) (w_X12_look hn1 hn2 (d + 4) hE k652) (fun h hE => ?_)
                        obtain ⟨r654, S653, k655, hf⟩ := zb_some hf
                        refine z_callSi dX12_readClause_259 tM_12_237 (by decide) mt_12014 (Nat.le_of_ble_eq_true rfl) rfl rfl (ia_oks_le hn1 rfl) (Nat.le_of_ble_eq_true rfl) (w_X12_placeOf_1000102 hn1 hn2 (d + 0) hE k655) (fun h hE => ?_)
                        refine z_istore (lv' := [(7, .int r654), (6, .int 0), (0, .ref 41), (1, .int r2), (2, .int 1), (3, .int q565), (4, .ref 51), (5, .ref 1000102)]) dX12_readClause_262 (by decide) rfl ?_
                        refine zW.sub (w_X12_readClause_L264a hn1 hn2 d (fun q683 q684 S682 h hE hf => ?_) zN 0 r654 S653 h hE hf) [2, 3, 4, 5, 6, 7, 1, 0] rfl rfl rfl rfl
                        try dsimp only at hf
                        have e_ := Option.some.inj hf
                        subst e_
                        exact z_vreturn dX12_readClause_347 rfl ⟨h, rfl, rfl, hE⟩
                      by_cases c635 : ¬ r2 = 116
                      · have hf := zif_t hf c635
                        refine z_icmp_ne_t (tgt := 218) dX12_readClause_205 (by decide) c635 ?_
                        exact zW.sub (hJ636 S634 _ hE hf) [0, 1, 2, 3, 4, 5] rfl rfl rfl rfl
                      · have hf := zif_f hf c635
                        refine z_icmp_ne_f (tgt := 218) dX12_readClause_205 (by decide) c635 ?_
                        refine z_aload_n dX12_readClause_208 rfl ?_
                        refine z_dup dX12_readClause_209 rfl ?_
                        refine z_getI dX12_readClause_210 tF_12_224 hE dr_41 rfl rfl ?_
                        refine z_iconst (v := 1) dX12_readClause_213 (by decide) ?_
                        refine z_iadd dX12_readClause_214 ?_
                        obtain ⟨S685, eS685, hf⟩ := zl_some hf
                        refine z_putI dX12_readClause_215 tF_12_224 hE dr_41 rfl rfl rfl rfl (fun h hE => ?_)
                        rw [← eS685] at hE
                        exact zW.sub (hJ636 S685 _ hE hf) [0, 1, 2, 3, 4, 5] rfl rfl rfl rfl
                    by_cases c632 : ¬ r2 = 104
                    · have hf := zif_t hf c632
                      refine z_icmp_ne_t (tgt := 202) dX12_readClause_189 (by decide) c632 ?_
                      exact zW.sub (hJ633 S631 _ hE hf) [0, 1, 2, 3, 4, 5] rfl rfl rfl rfl
                    · have hf := zif_f hf c632
                      refine z_icmp_ne_f (tgt := 202) dX12_readClause_189 (by decide) c632 ?_
                      refine z_aload_n dX12_readClause_192 rfl ?_
                      refine z_dup dX12_readClause_193 rfl ?_
                      refine z_getI dX12_readClause_194 tF_12_221 hE dr_41 rfl rfl ?_
                      refine z_iconst (v := 1) dX12_readClause_197 (by decide) ?_
                      refine z_iadd dX12_readClause_198 ?_
                      obtain ⟨S686, eS686, hf⟩ := zl_some hf
                      refine z_putI dX12_readClause_199 tF_12_221 hE dr_41 rfl rfl rfl rfl (fun h hE => ?_)
                      rw [← eS686] at hE
                      exact zW.sub (hJ633 S686 _ hE hf) [0, 1, 2, 3, 4, 5] rfl rfl rfl rfl
                  by_cases c629 : ¬ r2 = 106
                  · have hf := zif_t hf c629
                    refine z_icmp_ne_t (tgt := 186) dX12_readClause_173 (by decide) c629 ?_
                    exact zW.sub (hJ630 S562 _ hE hf) [3, 4, 5, 2, 1, 0] rfl rfl rfl rfl
                  · have hf := zif_f hf c629
                    refine z_icmp_ne_f (tgt := 186) dX12_readClause_173 (by decide) c629 ?_
                    refine z_aload_n dX12_readClause_176 rfl ?_
                    refine z_dup dX12_readClause_177 rfl ?_
                    refine z_getI dX12_readClause_178 tF_12_218 hE dr_41 rfl rfl ?_
                    refine z_iconst (v := 1) dX12_readClause_181 (by decide) ?_
                    refine z_iadd dX12_readClause_182 ?_
                    obtain ⟨S687, eS687, hf⟩ := zl_some hf
                    refine z_putI dX12_readClause_183 tF_12_218 hE dr_41 rfl rfl rfl rfl (fun h hE => ?_)
                    rw [← eS687] at hE
                    exact zW.sub (hJ630 S687 _ hE hf) [3, 4, 5, 2, 1, 0] rfl rfl rfl rfl
              · have hf := zif_f hf c568
                refine z_icmp_ne_f (tgt := 155) dX12_readClause_147 (by decide) c568 ?_
                refine z_ldcS dX12_readClause_150 tK_12_227 ?_
                refine z_goto (tgt := 168) dX12_readClause_152 (by decide) ?_
                refine z_astore (lv' := [(5, .ref 1000101), (4, .ref 51), (3, .int q565), (0, .ref 41), (1, .int r2), (2, .int 1)]) dX12_readClause_168 (by decide) rfl ?_
                refine z_iload_n dX12_readClause_170 rfl ?_
                refine z_bipush (v := 106) dX12_readClause_171 (by decide) ?_
                obtain ⟨J689, eJ689, hf⟩ := zl_some hf
                have hJ689 : ∀ (S690 : zS) (h : Nat → va_E), zE zDr h0 S690 (h, t) → J689 S690 = some R → zW (ia_P0 L xs fm) ia_nx (d + 5) 12 false cX12_readClause 8 (none) 186 [(0, .ref 41), (1, .int r2), (2, .int 1), (3, .int q565), (4, .ref 51), (5, .ref 1000101)] [] (h, t) (zQv zDr h0 t R) := by
                  intro S690 h hE hf
                  rw [eJ689] at hf
                  refine z_iload_n dX12_readClause_186 rfl ?_
                  refine z_bipush (v := 104) dX12_readClause_187 (by decide) ?_
                  obtain ⟨J692, eJ692, hf⟩ := zl_some hf
                  have hJ692 : ∀ (S693 : zS) (h : Nat → va_E), zE zDr h0 S693 (h, t) → J692 S693 = some R → zW (ia_P0 L xs fm) ia_nx (d + 5) 12 false cX12_readClause 8 (none) 202 [(0, .ref 41), (1, .int r2), (2, .int 1), (3, .int q565), (4, .ref 51), (5, .ref 1000101)] [] (h, t) (zQv zDr h0 t R) := by
                    intro S693 h hE hf
                    rw [eJ692] at hf
                    refine z_iload_n dX12_readClause_202 rfl ?_
                    refine z_bipush (v := 116) dX12_readClause_203 (by decide) ?_
                    obtain ⟨J695, eJ695, hf⟩ := zl_some hf
                    have hJ695 : ∀ (S696 : zS) (h : Nat → va_E), zE zDr h0 S696 (h, t) → J695 S696 = some R → zW (ia_P0 L xs fm) ia_nx (d + 5) 12 false cX12_readClause 8 (none) 218 [(0, .ref 41), (1, .int r2), (2, .int 1), (3, .int q565), (4, .ref 51), (5, .ref 1000101)] [] (h, t) (zQv zDr h0 t R) := by
                      intro S696 h hE hf
                      rw [eJ695] at hf
                      refine z_iconst (v := 0) dX12_readClause_218 (by decide) ?_
                      refine z_istore (lv' := [(6, .int 0), (0, .ref 41), (1, .int r2), (2, .int 1), (3, .int q565), (4, .ref 51), (5, .ref 1000101)]) dX12_readClause_219 (by decide) rfl ?_
                      refine zW.sub (w_X12_readClause_L221b hn1 hn2 d (fun q708 S707 h hE hf => ?_) zN 0 S696 h hE hf) [1, 2, 3, 4, 5, 6, 0] rfl rfl rfl rfl
                      try dsimp only at hf
                      refine z_iconst (v := 0) dX12_readClause_250 (by decide) ?_
                      refine z_istore (lv' := [(6, .int 0), (0, .ref 41), (1, .int r2), (2, .int 1), (3, .int q565), (4, .ref 51), (5, .ref 1000101)]) dX12_readClause_251 (by decide) rfl ?_
                      refine z_aload dX12_readClause_253 rfl ?_
                      refine z_aload_n dX12_readClause_255 rfl ?_
                      obtain ⟨r710, S709, k711, hf⟩ := zb_some hf
                      refine z_callVi dX12_readClause_256 tM_12_135 mt_12011 (Nat.le_of_ble_eq_true rfl) rfl rfl (z_recv hE dr_41 rfl) rfl (ia_oks_le hn1 rfl) (Nat.le_of_ble_eq_true rfl) (w_X12_look hn1 hn2 (d + 4) hE k711) (fun h hE => ?_)
                      obtain ⟨r713, S712, k714, hf⟩ := zb_some hf
                      refine z_callSi dX12_readClause_259 tM_12_237 (by decide) mt_12014 (Nat.le_of_ble_eq_true rfl) rfl rfl (ia_oks_le hn1 rfl) (Nat.le_of_ble_eq_true rfl) (w_X12_placeOf_1000101 hn1 hn2 (d + 0) hE k714) (fun h hE => ?_)
                      refine z_istore (lv' := [(7, .int r713), (6, .int 0), (0, .ref 41), (1, .int r2), (2, .int 1), (3, .int q565), (4, .ref 51), (5, .ref 1000101)]) dX12_readClause_262 (by decide) rfl ?_
                      refine zW.sub (w_X12_readClause_L264b hn1 hn2 d (fun q742 q743 S741 h hE hf => ?_) zN 0 r713 S712 h hE hf) [2, 3, 4, 5, 6, 7, 1, 0] rfl rfl rfl rfl
                      try dsimp only at hf
                      have e_ := Option.some.inj hf
                      subst e_
                      exact z_vreturn dX12_readClause_347 rfl ⟨h, rfl, rfl, hE⟩
                    by_cases c694 : ¬ r2 = 116
                    · have hf := zif_t hf c694
                      refine z_icmp_ne_t (tgt := 218) dX12_readClause_205 (by decide) c694 ?_
                      exact zW.sub (hJ695 S693 _ hE hf) [0, 1, 2, 3, 4, 5] rfl rfl rfl rfl
                    · have hf := zif_f hf c694
                      refine z_icmp_ne_f (tgt := 218) dX12_readClause_205 (by decide) c694 ?_
                      refine z_aload_n dX12_readClause_208 rfl ?_
                      refine z_dup dX12_readClause_209 rfl ?_
                      refine z_getI dX12_readClause_210 tF_12_224 hE dr_41 rfl rfl ?_
                      refine z_iconst (v := 1) dX12_readClause_213 (by decide) ?_
                      refine z_iadd dX12_readClause_214 ?_
                      obtain ⟨S744, eS744, hf⟩ := zl_some hf
                      refine z_putI dX12_readClause_215 tF_12_224 hE dr_41 rfl rfl rfl rfl (fun h hE => ?_)
                      rw [← eS744] at hE
                      exact zW.sub (hJ695 S744 _ hE hf) [0, 1, 2, 3, 4, 5] rfl rfl rfl rfl
                  by_cases c691 : ¬ r2 = 104
                  · have hf := zif_t hf c691
                    refine z_icmp_ne_t (tgt := 202) dX12_readClause_189 (by decide) c691 ?_
                    exact zW.sub (hJ692 S690 _ hE hf) [0, 1, 2, 3, 4, 5] rfl rfl rfl rfl
                  · have hf := zif_f hf c691
                    refine z_icmp_ne_f (tgt := 202) dX12_readClause_189 (by decide) c691 ?_
                    refine z_aload_n dX12_readClause_192 rfl ?_
                    refine z_dup dX12_readClause_193 rfl ?_
                    refine z_getI dX12_readClause_194 tF_12_221 hE dr_41 rfl rfl ?_
                    refine z_iconst (v := 1) dX12_readClause_197 (by decide) ?_
                    refine z_iadd dX12_readClause_198 ?_
                    obtain ⟨S745, eS745, hf⟩ := zl_some hf
                    refine z_putI dX12_readClause_199 tF_12_221 hE dr_41 rfl rfl rfl rfl (fun h hE => ?_)
                    rw [← eS745] at hE
                    exact zW.sub (hJ692 S745 _ hE hf) [0, 1, 2, 3, 4, 5] rfl rfl rfl rfl
                by_cases c688 : ¬ r2 = 106
                · have hf := zif_t hf c688
                  refine z_icmp_ne_t (tgt := 186) dX12_readClause_173 (by decide) c688 ?_
                  exact zW.sub (hJ689 S562 _ hE hf) [3, 4, 5, 2, 1, 0] rfl rfl rfl rfl
                · have hf := zif_f hf c688
                  refine z_icmp_ne_f (tgt := 186) dX12_readClause_173 (by decide) c688 ?_
                  refine z_aload_n dX12_readClause_176 rfl ?_
                  refine z_dup dX12_readClause_177 rfl ?_
                  refine z_getI dX12_readClause_178 tF_12_218 hE dr_41 rfl rfl ?_
                  refine z_iconst (v := 1) dX12_readClause_181 (by decide) ?_
                  refine z_iadd dX12_readClause_182 ?_
                  obtain ⟨S746, eS746, hf⟩ := zl_some hf
                  refine z_putI dX12_readClause_183 tF_12_218 hE dr_41 rfl rfl rfl rfl (fun h hE => ?_)
                  rw [← eS746] at hE
                  exact zW.sub (hJ689 S746 _ hE hf) [3, 4, 5, 2, 1, 0] rfl rfl rfl rfl
            · have hf := zif_f hf c567
              refine z_icmp_ne_f (tgt := 138) dX12_readClause_128 (by decide) c567 ?_
              refine z_aload_n dX12_readClause_131 rfl ?_
              refine z_getC dX12_readClause_132 tF_12_46 hE dr_41 rfl rfl ?_
              refine z_goto (tgt := 142) dX12_readClause_135 (by decide) ?_
              refine z_astore (lv' := [(4, .ref 49), (3, .int q565), (0, .ref 41), (1, .int r2), (2, .int 1)]) dX12_readClause_142 (by decide) rfl ?_
              refine z_iload_n dX12_readClause_144 rfl ?_
              refine z_bipush (v := 106) dX12_readClause_145 (by decide) ?_
              by_cases c747 : ¬ r2 = 106
              · have hf := zif_t hf c747
                refine z_icmp_ne_t (tgt := 155) dX12_readClause_147 (by decide) c747 ?_
                refine z_iload_n dX12_readClause_155 rfl ?_
                refine z_bipush (v := 104) dX12_readClause_156 (by decide) ?_
                by_cases c748 : ¬ r2 = 104
                · have hf := zif_t hf c748
                  refine z_icmp_ne_t (tgt := 166) dX12_readClause_158 (by decide) c748 ?_
                  refine z_ldcS dX12_readClause_166 tK_12_231 ?_
                  refine z_astore (lv' := [(5, .ref 1000103), (4, .ref 49), (3, .int q565), (0, .ref 41), (1, .int r2), (2, .int 1)]) dX12_readClause_168 (by decide) rfl ?_
                  refine z_iload_n dX12_readClause_170 rfl ?_
                  refine z_bipush (v := 106) dX12_readClause_171 (by decide) ?_
                  obtain ⟨J750, eJ750, hf⟩ := zl_some hf
                  have hJ750 : ∀ (S751 : zS) (h : Nat → va_E), zE zDr h0 S751 (h, t) → J750 S751 = some R → zW (ia_P0 L xs fm) ia_nx (d + 5) 12 false cX12_readClause 8 (none) 186 [(0, .ref 41), (1, .int r2), (2, .int 1), (3, .int q565), (4, .ref 49), (5, .ref 1000103)] [] (h, t) (zQv zDr h0 t R) := by
                    intro S751 h hE hf
                    rw [eJ750] at hf
                    refine z_iload_n dX12_readClause_186 rfl ?_
                    refine z_bipush (v := 104) dX12_readClause_187 (by decide) ?_
                    obtain ⟨J753, eJ753, hf⟩ := zl_some hf
                    have hJ753 : ∀ (S754 : zS) (h : Nat → va_E), zE zDr h0 S754 (h, t) → J753 S754 = some R → zW (ia_P0 L xs fm) ia_nx (d + 5) 12 false cX12_readClause 8 (none) 202 [(0, .ref 41), (1, .int r2), (2, .int 1), (3, .int q565), (4, .ref 49), (5, .ref 1000103)] [] (h, t) (zQv zDr h0 t R) := by
                      intro S754 h hE hf
                      rw [eJ753] at hf
                      refine z_iload_n dX12_readClause_202 rfl ?_
                      refine z_bipush (v := 116) dX12_readClause_203 (by decide) ?_
                      obtain ⟨J756, eJ756, hf⟩ := zl_some hf
                      have hJ756 : ∀ (S757 : zS) (h : Nat → va_E), zE zDr h0 S757 (h, t) → J756 S757 = some R → zW (ia_P0 L xs fm) ia_nx (d + 5) 12 false cX12_readClause 8 (none) 218 [(0, .ref 41), (1, .int r2), (2, .int 1), (3, .int q565), (4, .ref 49), (5, .ref 1000103)] [] (h, t) (zQv zDr h0 t R) := by
                        intro S757 h hE hf
                        rw [eJ756] at hf
                        refine z_iconst (v := 0) dX12_readClause_218 (by decide) ?_
                        refine z_istore (lv' := [(6, .int 0), (0, .ref 41), (1, .int r2), (2, .int 1), (3, .int q565), (4, .ref 49), (5, .ref 1000103)]) dX12_readClause_219 (by decide) rfl ?_
                        refine zW.sub (w_X12_readClause_L221c hn1 hn2 d (fun q769 S768 h hE hf => ?_) zN 0 S757 h hE hf) [1, 2, 3, 4, 5, 6, 0] rfl rfl rfl rfl
                        try dsimp only at hf
                        refine z_iconst (v := 0) dX12_readClause_250 (by decide) ?_
                        refine z_istore (lv' := [(6, .int 0), (0, .ref 41), (1, .int r2), (2, .int 1), (3, .int q565), (4, .ref 49), (5, .ref 1000103)]) dX12_readClause_251 (by decide) rfl ?_
                        refine z_aload dX12_readClause_253 rfl ?_
                        refine z_aload_n dX12_readClause_255 rfl ?_
                        obtain ⟨r771, S770, k772, hf⟩ := zb_some hf
                        refine z_callVi dX12_readClause_256 tM_12_135 mt_12011 (Nat.le_of_ble_eq_true rfl) rfl rfl (z_recv hE dr_41 rfl) rfl (ia_oks_le hn1 rfl) (Nat.le_of_ble_eq_true rfl) (w_X12_look hn1 hn2 (d + 4) hE k772) (fun h hE => ?_)
                        obtain ⟨r774, S773, k775, hf⟩ := zb_some hf
                        refine z_callSi dX12_readClause_259 tM_12_237 (by decide) mt_12014 (Nat.le_of_ble_eq_true rfl) rfl rfl (ia_oks_le hn1 rfl) (Nat.le_of_ble_eq_true rfl) (w_X12_placeOf_1000103 hn1 hn2 (d + 0) hE k775) (fun h hE => ?_)
                        refine z_istore (lv' := [(7, .int r774), (6, .int 0), (0, .ref 41), (1, .int r2), (2, .int 1), (3, .int q565), (4, .ref 49), (5, .ref 1000103)]) dX12_readClause_262 (by decide) rfl ?_
                        refine zW.sub (w_X12_readClause_L264c hn1 hn2 d (fun q803 q804 S802 h hE hf => ?_) zN 0 r774 S773 h hE hf) [2, 3, 4, 5, 6, 7, 1, 0] rfl rfl rfl rfl
                        try dsimp only at hf
                        have e_ := Option.some.inj hf
                        subst e_
                        exact z_vreturn dX12_readClause_347 rfl ⟨h, rfl, rfl, hE⟩
                      by_cases c755 : ¬ r2 = 116
                      · have hf := zif_t hf c755
                        refine z_icmp_ne_t (tgt := 218) dX12_readClause_205 (by decide) c755 ?_
                        exact zW.sub (hJ756 S754 _ hE hf) [0, 1, 2, 3, 4, 5] rfl rfl rfl rfl
                      · have hf := zif_f hf c755
                        refine z_icmp_ne_f (tgt := 218) dX12_readClause_205 (by decide) c755 ?_
                        refine z_aload_n dX12_readClause_208 rfl ?_
                        refine z_dup dX12_readClause_209 rfl ?_
                        refine z_getI dX12_readClause_210 tF_12_224 hE dr_41 rfl rfl ?_
                        refine z_iconst (v := 1) dX12_readClause_213 (by decide) ?_
                        refine z_iadd dX12_readClause_214 ?_
                        obtain ⟨S805, eS805, hf⟩ := zl_some hf
                        refine z_putI dX12_readClause_215 tF_12_224 hE dr_41 rfl rfl rfl rfl (fun h hE => ?_)
                        rw [← eS805] at hE
                        exact zW.sub (hJ756 S805 _ hE hf) [0, 1, 2, 3, 4, 5] rfl rfl rfl rfl
                    by_cases c752 : ¬ r2 = 104
                    · have hf := zif_t hf c752
                      refine z_icmp_ne_t (tgt := 202) dX12_readClause_189 (by decide) c752 ?_
                      exact zW.sub (hJ753 S751 _ hE hf) [0, 1, 2, 3, 4, 5] rfl rfl rfl rfl
                    · have hf := zif_f hf c752
                      refine z_icmp_ne_f (tgt := 202) dX12_readClause_189 (by decide) c752 ?_
                      refine z_aload_n dX12_readClause_192 rfl ?_
                      refine z_dup dX12_readClause_193 rfl ?_
                      refine z_getI dX12_readClause_194 tF_12_221 hE dr_41 rfl rfl ?_
                      refine z_iconst (v := 1) dX12_readClause_197 (by decide) ?_
                      refine z_iadd dX12_readClause_198 ?_
                      obtain ⟨S806, eS806, hf⟩ := zl_some hf
                      refine z_putI dX12_readClause_199 tF_12_221 hE dr_41 rfl rfl rfl rfl (fun h hE => ?_)
                      rw [← eS806] at hE
                      exact zW.sub (hJ753 S806 _ hE hf) [0, 1, 2, 3, 4, 5] rfl rfl rfl rfl
                  by_cases c749 : ¬ r2 = 106
                  · have hf := zif_t hf c749
                    refine z_icmp_ne_t (tgt := 186) dX12_readClause_173 (by decide) c749 ?_
                    exact zW.sub (hJ750 S562 _ hE hf) [3, 4, 5, 2, 1, 0] rfl rfl rfl rfl
                  · have hf := zif_f hf c749
                    refine z_icmp_ne_f (tgt := 186) dX12_readClause_173 (by decide) c749 ?_
                    refine z_aload_n dX12_readClause_176 rfl ?_
                    refine z_dup dX12_readClause_177 rfl ?_
                    refine z_getI dX12_readClause_178 tF_12_218 hE dr_41 rfl rfl ?_
                    refine z_iconst (v := 1) dX12_readClause_181 (by decide) ?_
                    refine z_iadd dX12_readClause_182 ?_
                    obtain ⟨S807, eS807, hf⟩ := zl_some hf
                    refine z_putI dX12_readClause_183 tF_12_218 hE dr_41 rfl rfl rfl rfl (fun h hE => ?_)
                    rw [← eS807] at hE
                    exact zW.sub (hJ750 S807 _ hE hf) [3, 4, 5, 2, 1, 0] rfl rfl rfl rfl
                · have hf := zif_f hf c748
                  refine z_icmp_ne_f (tgt := 166) dX12_readClause_158 (by decide) c748 ?_
                  refine z_ldcS dX12_readClause_161 tK_12_229 ?_
                  refine z_goto (tgt := 168) dX12_readClause_163 (by decide) ?_
                  refine z_astore (lv' := [(5, .ref 1000102), (4, .ref 49), (3, .int q565), (0, .ref 41), (1, .int r2), (2, .int 1)]) dX12_readClause_168 (by decide) rfl ?_
                  refine z_iload_n dX12_readClause_170 rfl ?_
                  refine z_bipush (v := 106) dX12_readClause_171 (by decide) ?_
                  obtain ⟨J809, eJ809, hf⟩ := zl_some hf
                  have hJ809 : ∀ (S810 : zS) (h : Nat → va_E), zE zDr h0 S810 (h, t) → J809 S810 = some R → zW (ia_P0 L xs fm) ia_nx (d + 5) 12 false cX12_readClause 8 (none) 186 [(0, .ref 41), (1, .int r2), (2, .int 1), (3, .int q565), (4, .ref 49), (5, .ref 1000102)] [] (h, t) (zQv zDr h0 t R) := by
                    intro S810 h hE hf
                    rw [eJ809] at hf
                    refine z_iload_n dX12_readClause_186 rfl ?_
                    refine z_bipush (v := 104) dX12_readClause_187 (by decide) ?_
                    obtain ⟨J812, eJ812, hf⟩ := zl_some hf
                    have hJ812 : ∀ (S813 : zS) (h : Nat → va_E), zE zDr h0 S813 (h, t) → J812 S813 = some R → zW (ia_P0 L xs fm) ia_nx (d + 5) 12 false cX12_readClause 8 (none) 202 [(0, .ref 41), (1, .int r2), (2, .int 1), (3, .int q565), (4, .ref 49), (5, .ref 1000102)] [] (h, t) (zQv zDr h0 t R) := by
                      intro S813 h hE hf
                      rw [eJ812] at hf
                      refine z_iload_n dX12_readClause_202 rfl ?_
                      refine z_bipush (v := 116) dX12_readClause_203 (by decide) ?_
                      obtain ⟨J815, eJ815, hf⟩ := zl_some hf
                      have hJ815 : ∀ (S816 : zS) (h : Nat → va_E), zE zDr h0 S816 (h, t) → J815 S816 = some R → zW (ia_P0 L xs fm) ia_nx (d + 5) 12 false cX12_readClause 8 (none) 218 [(0, .ref 41), (1, .int r2), (2, .int 1), (3, .int q565), (4, .ref 49), (5, .ref 1000102)] [] (h, t) (zQv zDr h0 t R) := by
                        intro S816 h hE hf
                        rw [eJ815] at hf
                        refine z_iconst (v := 0) dX12_readClause_218 (by decide) ?_
                        refine z_istore (lv' := [(6, .int 0), (0, .ref 41), (1, .int r2), (2, .int 1), (3, .int q565), (4, .ref 49), (5, .ref 1000102)]) dX12_readClause_219 (by decide) rfl ?_
                        refine zW.sub (w_X12_readClause_L221d hn1 hn2 d (fun q828 S827 h hE hf => ?_) zN 0 S816 h hE hf) [1, 2, 3, 4, 5, 6, 0] rfl rfl rfl rfl
                        try dsimp only at hf
                        refine z_iconst (v := 0) dX12_readClause_250 (by decide) ?_
                        refine z_istore (lv' := [(6, .int 0), (0, .ref 41), (1, .int r2), (2, .int 1), (3, .int q565), (4, .ref 49), (5, .ref 1000102)]) dX12_readClause_251 (by decide) rfl ?_
                        refine z_aload dX12_readClause_253 rfl ?_
                        refine z_aload_n dX12_readClause_255 rfl ?_
                        obtain ⟨r830, S829, k831, hf⟩ := zb_some hf
                        refine z_callVi dX12_readClause_256 tM_12_135 mt_12011 (Nat.le_of_ble_eq_true rfl) rfl rfl (z_recv hE dr_41 rfl) rfl (ia_oks_le hn1 rfl) (Nat.le_of_ble_eq_true rfl) (w_X12_look hn1 hn2 (d + 4) hE k831) (fun h hE => ?_)
                        obtain ⟨r833, S832, k834, hf⟩ := zb_some hf
                        refine z_callSi dX12_readClause_259 tM_12_237 (by decide) mt_12014 (Nat.le_of_ble_eq_true rfl) rfl rfl (ia_oks_le hn1 rfl) (Nat.le_of_ble_eq_true rfl) (w_X12_placeOf_1000102 hn1 hn2 (d + 0) hE k834) (fun h hE => ?_)
                        refine z_istore (lv' := [(7, .int r833), (6, .int 0), (0, .ref 41), (1, .int r2), (2, .int 1), (3, .int q565), (4, .ref 49), (5, .ref 1000102)]) dX12_readClause_262 (by decide) rfl ?_
                        refine zW.sub (w_X12_readClause_L264d hn1 hn2 d (fun q862 q863 S861 h hE hf => ?_) zN 0 r833 S832 h hE hf) [2, 3, 4, 5, 6, 7, 1, 0] rfl rfl rfl rfl
                        try dsimp only at hf
                        have e_ := Option.some.inj hf
                        subst e_
                        exact z_vreturn dX12_readClause_347 rfl ⟨h, rfl, rfl, hE⟩
                      by_cases c814 : ¬ r2 = 116
                      · have hf := zif_t hf c814
                        refine z_icmp_ne_t (tgt := 218) dX12_readClause_205 (by decide) c814 ?_
                        exact zW.sub (hJ815 S813 _ hE hf) [0, 1, 2, 3, 4, 5] rfl rfl rfl rfl
                      · have hf := zif_f hf c814
                        refine z_icmp_ne_f (tgt := 218) dX12_readClause_205 (by decide) c814 ?_
                        refine z_aload_n dX12_readClause_208 rfl ?_
                        refine z_dup dX12_readClause_209 rfl ?_
                        refine z_getI dX12_readClause_210 tF_12_224 hE dr_41 rfl rfl ?_
                        refine z_iconst (v := 1) dX12_readClause_213 (by decide) ?_
                        refine z_iadd dX12_readClause_214 ?_
                        obtain ⟨S864, eS864, hf⟩ := zl_some hf
                        refine z_putI dX12_readClause_215 tF_12_224 hE dr_41 rfl rfl rfl rfl (fun h hE => ?_)
                        rw [← eS864] at hE
                        exact zW.sub (hJ815 S864 _ hE hf) [0, 1, 2, 3, 4, 5] rfl rfl rfl rfl
                    by_cases c811 : ¬ r2 = 104
                    · have hf := zif_t hf c811
                      refine z_icmp_ne_t (tgt := 202) dX12_readClause_189 (by decide) c811 ?_
                      exact zW.sub (hJ812 S810 _ hE hf) [0, 1, 2, 3, 4, 5] rfl rfl rfl rfl
                    · have hf := zif_f hf c811
                      refine z_icmp_ne_f (tgt := 202) dX12_readClause_189 (by decide) c811 ?_
                      refine z_aload_n dX12_readClause_192 rfl ?_
                      refine z_dup dX12_readClause_193 rfl ?_
                      refine z_getI dX12_readClause_194 tF_12_221 hE dr_41 rfl rfl ?_
                      refine z_iconst (v := 1) dX12_readClause_197 (by decide) ?_
                      refine z_iadd dX12_readClause_198 ?_
                      obtain ⟨S865, eS865, hf⟩ := zl_some hf
                      refine z_putI dX12_readClause_199 tF_12_221 hE dr_41 rfl rfl rfl rfl (fun h hE => ?_)
                      rw [← eS865] at hE
                      exact zW.sub (hJ812 S865 _ hE hf) [0, 1, 2, 3, 4, 5] rfl rfl rfl rfl
                  by_cases c808 : ¬ r2 = 106
                  · have hf := zif_t hf c808
                    refine z_icmp_ne_t (tgt := 186) dX12_readClause_173 (by decide) c808 ?_
                    exact zW.sub (hJ809 S562 _ hE hf) [3, 4, 5, 2, 1, 0] rfl rfl rfl rfl
                  · have hf := zif_f hf c808
                    refine z_icmp_ne_f (tgt := 186) dX12_readClause_173 (by decide) c808 ?_
                    refine z_aload_n dX12_readClause_176 rfl ?_
                    refine z_dup dX12_readClause_177 rfl ?_
                    refine z_getI dX12_readClause_178 tF_12_218 hE dr_41 rfl rfl ?_
                    refine z_iconst (v := 1) dX12_readClause_181 (by decide) ?_
                    refine z_iadd dX12_readClause_182 ?_
                    obtain ⟨S866, eS866, hf⟩ := zl_some hf
                    refine z_putI dX12_readClause_183 tF_12_218 hE dr_41 rfl rfl rfl rfl (fun h hE => ?_)
                    rw [← eS866] at hE
                    exact zW.sub (hJ809 S866 _ hE hf) [3, 4, 5, 2, 1, 0] rfl rfl rfl rfl
              · have hf := zif_f hf c747
                refine z_icmp_ne_f (tgt := 155) dX12_readClause_147 (by decide) c747 ?_
                refine z_ldcS dX12_readClause_150 tK_12_227 ?_
                refine z_goto (tgt := 168) dX12_readClause_152 (by decide) ?_
                refine z_astore (lv' := [(5, .ref 1000101), (4, .ref 49), (3, .int q565), (0, .ref 41), (1, .int r2), (2, .int 1)]) dX12_readClause_168 (by decide) rfl ?_
                refine z_iload_n dX12_readClause_170 rfl ?_
                refine z_bipush (v := 106) dX12_readClause_171 (by decide) ?_
                obtain ⟨J868, eJ868, hf⟩ := zl_some hf
                have hJ868 : ∀ (S869 : zS) (h : Nat → va_E), zE zDr h0 S869 (h, t) → J868 S869 = some R → zW (ia_P0 L xs fm) ia_nx (d + 5) 12 false cX12_readClause 8 (none) 186 [(0, .ref 41), (1, .int r2), (2, .int 1), (3, .int q565), (4, .ref 49), (5, .ref 1000101)] [] (h, t) (zQv zDr h0 t R) := by
                  intro S869 h hE hf
                  rw [eJ868] at hf
                  refine z_iload_n dX12_readClause_186 rfl ?_
                  refine z_bipush (v := 104) dX12_readClause_187 (by decide) ?_
                  obtain ⟨J871, eJ871, hf⟩ := zl_some hf
                  have hJ871 : ∀ (S872 : zS) (h : Nat → va_E), zE zDr h0 S872 (h, t) → J871 S872 = some R → zW (ia_P0 L xs fm) ia_nx (d + 5) 12 false cX12_readClause 8 (none) 202 [(0, .ref 41), (1, .int r2), (2, .int 1), (3, .int q565), (4, .ref 49), (5, .ref 1000101)] [] (h, t) (zQv zDr h0 t R) := by
                    intro S872 h hE hf
                    rw [eJ871] at hf
                    refine z_iload_n dX12_readClause_202 rfl ?_
                    refine z_bipush (v := 116) dX12_readClause_203 (by decide) ?_
                    obtain ⟨J874, eJ874, hf⟩ := zl_some hf
                    have hJ874 : ∀ (S875 : zS) (h : Nat → va_E), zE zDr h0 S875 (h, t) → J874 S875 = some R → zW (ia_P0 L xs fm) ia_nx (d + 5) 12 false cX12_readClause 8 (none) 218 [(0, .ref 41), (1, .int r2), (2, .int 1), (3, .int q565), (4, .ref 49), (5, .ref 1000101)] [] (h, t) (zQv zDr h0 t R) := by
                      intro S875 h hE hf
                      rw [eJ874] at hf
                      refine z_iconst (v := 0) dX12_readClause_218 (by decide) ?_
                      refine z_istore (lv' := [(6, .int 0), (0, .ref 41), (1, .int r2), (2, .int 1), (3, .int q565), (4, .ref 49), (5, .ref 1000101)]) dX12_readClause_219 (by decide) rfl ?_
                      refine zW.sub (w_X12_readClause_L221e hn1 hn2 d (fun q887 S886 h hE hf => ?_) zN 0 S875 h hE hf) [1, 2, 3, 4, 5, 6, 0] rfl rfl rfl rfl
                      try dsimp only at hf
                      refine z_iconst (v := 0) dX12_readClause_250 (by decide) ?_
                      refine z_istore (lv' := [(6, .int 0), (0, .ref 41), (1, .int r2), (2, .int 1), (3, .int q565), (4, .ref 49), (5, .ref 1000101)]) dX12_readClause_251 (by decide) rfl ?_
                      refine z_aload dX12_readClause_253 rfl ?_
                      refine z_aload_n dX12_readClause_255 rfl ?_
                      obtain ⟨r889, S888, k890, hf⟩ := zb_some hf
                      refine z_callVi dX12_readClause_256 tM_12_135 mt_12011 (Nat.le_of_ble_eq_true rfl) rfl rfl (z_recv hE dr_41 rfl) rfl (ia_oks_le hn1 rfl) (Nat.le_of_ble_eq_true rfl) (w_X12_look hn1 hn2 (d + 4) hE k890) (fun h hE => ?_)
                      obtain ⟨r892, S891, k893, hf⟩ := zb_some hf
                      refine z_callSi dX12_readClause_259 tM_12_237 (by decide) mt_12014 (Nat.le_of_ble_eq_true rfl) rfl rfl (ia_oks_le hn1 rfl) (Nat.le_of_ble_eq_true rfl) (w_X12_placeOf_1000101 hn1 hn2 (d + 0) hE k893) (fun h hE => ?_)
                      refine z_istore (lv' := [(7, .int r892), (6, .int 0), (0, .ref 41), (1, .int r2), (2, .int 1), (3, .int q565), (4, .ref 49), (5, .ref 1000101)]) dX12_readClause_262 (by decide) rfl ?_
                      refine zW.sub (w_X12_readClause_L264e hn1 hn2 d (fun q921 q922 S920 h hE hf => ?_) zN 0 r892 S891 h hE hf) [2, 3, 4, 5, 6, 7, 1, 0] rfl rfl rfl rfl
                      try dsimp only at hf
                      have e_ := Option.some.inj hf
                      subst e_
                      exact z_vreturn dX12_readClause_347 rfl ⟨h, rfl, rfl, hE⟩
                    by_cases c873 : ¬ r2 = 116
                    · have hf := zif_t hf c873
                      refine z_icmp_ne_t (tgt := 218) dX12_readClause_205 (by decide) c873 ?_
                      exact zW.sub (hJ874 S872 _ hE hf) [0, 1, 2, 3, 4, 5] rfl rfl rfl rfl
                    · have hf := zif_f hf c873
                      refine z_icmp_ne_f (tgt := 218) dX12_readClause_205 (by decide) c873 ?_
                      refine z_aload_n dX12_readClause_208 rfl ?_
                      refine z_dup dX12_readClause_209 rfl ?_
                      refine z_getI dX12_readClause_210 tF_12_224 hE dr_41 rfl rfl ?_
                      refine z_iconst (v := 1) dX12_readClause_213 (by decide) ?_
                      refine z_iadd dX12_readClause_214 ?_
                      obtain ⟨S923, eS923, hf⟩ := zl_some hf
                      refine z_putI dX12_readClause_215 tF_12_224 hE dr_41 rfl rfl rfl rfl (fun h hE => ?_)
                      rw [← eS923] at hE
                      exact zW.sub (hJ874 S923 _ hE hf) [0, 1, 2, 3, 4, 5] rfl rfl rfl rfl
                  by_cases c870 : ¬ r2 = 104
                  · have hf := zif_t hf c870
                    refine z_icmp_ne_t (tgt := 202) dX12_readClause_189 (by decide) c870 ?_
                    exact zW.sub (hJ871 S869 _ hE hf) [0, 1, 2, 3, 4, 5] rfl rfl rfl rfl
                  · have hf := zif_f hf c870
                    refine z_icmp_ne_f (tgt := 202) dX12_readClause_189 (by decide) c870 ?_
                    refine z_aload_n dX12_readClause_192 rfl ?_
                    refine z_dup dX12_readClause_193 rfl ?_
                    refine z_getI dX12_readClause_194 tF_12_221 hE dr_41 rfl rfl ?_
                    refine z_iconst (v := 1) dX12_readClause_197 (by decide) ?_
                    refine z_iadd dX12_readClause_198 ?_
                    obtain ⟨S924, eS924, hf⟩ := zl_some hf
                    refine z_putI dX12_readClause_199 tF_12_221 hE dr_41 rfl rfl rfl rfl (fun h hE => ?_)
                    rw [← eS924] at hE
                    exact zW.sub (hJ871 S924 _ hE hf) [0, 1, 2, 3, 4, 5] rfl rfl rfl rfl
                by_cases c867 : ¬ r2 = 106
                · have hf := zif_t hf c867
                  refine z_icmp_ne_t (tgt := 186) dX12_readClause_173 (by decide) c867 ?_
                  exact zW.sub (hJ868 S562 _ hE hf) [3, 4, 5, 2, 1, 0] rfl rfl rfl rfl
                · have hf := zif_f hf c867
                  refine z_icmp_ne_f (tgt := 186) dX12_readClause_173 (by decide) c867 ?_
                  refine z_aload_n dX12_readClause_176 rfl ?_
                  refine z_dup dX12_readClause_177 rfl ?_
                  refine z_getI dX12_readClause_178 tF_12_218 hE dr_41 rfl rfl ?_
                  refine z_iconst (v := 1) dX12_readClause_181 (by decide) ?_
                  refine z_iadd dX12_readClause_182 ?_
                  obtain ⟨S925, eS925, hf⟩ := zl_some hf
                  refine z_putI dX12_readClause_183 tF_12_218 hE dr_41 rfl rfl rfl rfl (fun h hE => ?_)
                  rw [← eS925] at hE
                  exact zW.sub (hJ868 S925 _ hE hf) [3, 4, 5, 2, 1, 0] rfl rfl rfl rfl
          · have hf := zif_f hf c566
            refine z_icmp_ne_f (tgt := 125) dX12_readClause_115 (by decide) c566 ?_
            refine z_aload_n dX12_readClause_118 rfl ?_
            refine z_getC dX12_readClause_119 tF_12_40 hE dr_41 rfl rfl ?_
            refine z_goto (tgt := 142) dX12_readClause_122 (by decide) ?_
            refine z_astore (lv' := [(4, .ref 47), (3, .int q565), (0, .ref 41), (1, .int r2), (2, .int 1)]) dX12_readClause_142 (by decide) rfl ?_
            refine z_iload_n dX12_readClause_144 rfl ?_
            refine z_bipush (v := 106) dX12_readClause_145 (by decide) ?_
            by_cases c926 : ¬ r2 = 106
            · have hf := zif_t hf c926
              refine z_icmp_ne_t (tgt := 155) dX12_readClause_147 (by decide) c926 ?_
              refine z_iload_n dX12_readClause_155 rfl ?_
              refine z_bipush (v := 104) dX12_readClause_156 (by decide) ?_
              by_cases c927 : ¬ r2 = 104
              · have hf := zif_t hf c927
                refine z_icmp_ne_t (tgt := 166) dX12_readClause_158 (by decide) c927 ?_
                refine z_ldcS dX12_readClause_166 tK_12_231 ?_
                refine z_astore (lv' := [(5, .ref 1000103), (4, .ref 47), (3, .int q565), (0, .ref 41), (1, .int r2), (2, .int 1)]) dX12_readClause_168 (by decide) rfl ?_
                refine z_iload_n dX12_readClause_170 rfl ?_
                refine z_bipush (v := 106) dX12_readClause_171 (by decide) ?_
                obtain ⟨J929, eJ929, hf⟩ := zl_some hf
                have hJ929 : ∀ (S930 : zS) (h : Nat → va_E), zE zDr h0 S930 (h, t) → J929 S930 = some R → zW (ia_P0 L xs fm) ia_nx (d + 5) 12 false cX12_readClause 8 (none) 186 [(0, .ref 41), (1, .int r2), (2, .int 1), (3, .int q565), (4, .ref 47), (5, .ref 1000103)] [] (h, t) (zQv zDr h0 t R) := by
                  intro S930 h hE hf
                  rw [eJ929] at hf
                  refine z_iload_n dX12_readClause_186 rfl ?_
                  refine z_bipush (v := 104) dX12_readClause_187 (by decide) ?_
                  obtain ⟨J932, eJ932, hf⟩ := zl_some hf
                  have hJ932 : ∀ (S933 : zS) (h : Nat → va_E), zE zDr h0 S933 (h, t) → J932 S933 = some R → zW (ia_P0 L xs fm) ia_nx (d + 5) 12 false cX12_readClause 8 (none) 202 [(0, .ref 41), (1, .int r2), (2, .int 1), (3, .int q565), (4, .ref 47), (5, .ref 1000103)] [] (h, t) (zQv zDr h0 t R) := by
                    intro S933 h hE hf
                    rw [eJ932] at hf
                    refine z_iload_n dX12_readClause_202 rfl ?_
                    refine z_bipush (v := 116) dX12_readClause_203 (by decide) ?_
                    obtain ⟨J935, eJ935, hf⟩ := zl_some hf
                    have hJ935 : ∀ (S936 : zS) (h : Nat → va_E), zE zDr h0 S936 (h, t) → J935 S936 = some R → zW (ia_P0 L xs fm) ia_nx (d + 5) 12 false cX12_readClause 8 (none) 218 [(0, .ref 41), (1, .int r2), (2, .int 1), (3, .int q565), (4, .ref 47), (5, .ref 1000103)] [] (h, t) (zQv zDr h0 t R) := by
                      intro S936 h hE hf
                      rw [eJ935] at hf
                      refine z_iconst (v := 0) dX12_readClause_218 (by decide) ?_
                      refine z_istore (lv' := [(6, .int 0), (0, .ref 41), (1, .int r2), (2, .int 1), (3, .int q565), (4, .ref 47), (5, .ref 1000103)]) dX12_readClause_219 (by decide) rfl ?_
                      refine zW.sub (w_X12_readClause_L221f hn1 hn2 d (fun q948 S947 h hE hf => ?_) zN 0 S936 h hE hf) [1, 2, 3, 4, 5, 6, 0] rfl rfl rfl rfl
                      try dsimp only at hf
                      refine z_iconst (v := 0) dX12_readClause_250 (by decide) ?_
                      refine z_istore (lv' := [(6, .int 0), (0, .ref 41), (1, .int r2), (2, .int 1), (3, .int q565), (4, .ref 47), (5, .ref 1000103)]) dX12_readClause_251 (by decide) rfl ?_
                      refine z_aload dX12_readClause_253 rfl ?_
                      refine z_aload_n dX12_readClause_255 rfl ?_
                      obtain ⟨r950, S949, k951, hf⟩ := zb_some hf
                      refine z_callVi dX12_readClause_256 tM_12_135 mt_12011 (Nat.le_of_ble_eq_true rfl) rfl rfl (z_recv hE dr_41 rfl) rfl (ia_oks_le hn1 rfl) (Nat.le_of_ble_eq_true rfl) (w_X12_look hn1 hn2 (d + 4) hE k951) (fun h hE => ?_)
                      obtain ⟨r953, S952, k954, hf⟩ := zb_some hf
                      refine z_callSi dX12_readClause_259 tM_12_237 (by decide) mt_12014 (Nat.le_of_ble_eq_true rfl) rfl rfl (ia_oks_le hn1 rfl) (Nat.le_of_ble_eq_true rfl) (w_X12_placeOf_1000103 hn1 hn2 (d + 0) hE k954) (fun h hE => ?_)
                      refine z_istore (lv' := [(7, .int r953), (6, .int 0), (0, .ref 41), (1, .int r2), (2, .int 1), (3, .int q565), (4, .ref 47), (5, .ref 1000103)]) dX12_readClause_262 (by decide) rfl ?_
                      refine zW.sub (w_X12_readClause_L264f hn1 hn2 d (fun q982 q983 S981 h hE hf => ?_) zN 0 r953 S952 h hE hf) [2, 3, 4, 5, 6, 7, 1, 0] rfl rfl rfl rfl
                      try dsimp only at hf
                      have e_ := Option.some.inj hf
                      subst e_
                      exact z_vreturn dX12_readClause_347 rfl ⟨h, rfl, rfl, hE⟩
                    by_cases c934 : ¬ r2 = 116
                    · have hf := zif_t hf c934
                      refine z_icmp_ne_t (tgt := 218) dX12_readClause_205 (by decide) c934 ?_
                      exact zW.sub (hJ935 S933 _ hE hf) [0, 1, 2, 3, 4, 5] rfl rfl rfl rfl
                    · have hf := zif_f hf c934
                      refine z_icmp_ne_f (tgt := 218) dX12_readClause_205 (by decide) c934 ?_
                      refine z_aload_n dX12_readClause_208 rfl ?_
                      refine z_dup dX12_readClause_209 rfl ?_
                      refine z_getI dX12_readClause_210 tF_12_224 hE dr_41 rfl rfl ?_
                      refine z_iconst (v := 1) dX12_readClause_213 (by decide) ?_
                      refine z_iadd dX12_readClause_214 ?_
                      obtain ⟨S984, eS984, hf⟩ := zl_some hf
                      refine z_putI dX12_readClause_215 tF_12_224 hE dr_41 rfl rfl rfl rfl (fun h hE => ?_)
                      rw [← eS984] at hE
                      exact zW.sub (hJ935 S984 _ hE hf) [0, 1, 2, 3, 4, 5] rfl rfl rfl rfl
                  by_cases c931 : ¬ r2 = 104
                  · have hf := zif_t hf c931
                    refine z_icmp_ne_t (tgt := 202) dX12_readClause_189 (by decide) c931 ?_
                    exact zW.sub (hJ932 S930 _ hE hf) [0, 1, 2, 3, 4, 5] rfl rfl rfl rfl
                  · have hf := zif_f hf c931
                    refine z_icmp_ne_f (tgt := 202) dX12_readClause_189 (by decide) c931 ?_
                    refine z_aload_n dX12_readClause_192 rfl ?_
                    refine z_dup dX12_readClause_193 rfl ?_
                    refine z_getI dX12_readClause_194 tF_12_221 hE dr_41 rfl rfl ?_
                    refine z_iconst (v := 1) dX12_readClause_197 (by decide) ?_
                    refine z_iadd dX12_readClause_198 ?_
                    obtain ⟨S985, eS985, hf⟩ := zl_some hf
                    refine z_putI dX12_readClause_199 tF_12_221 hE dr_41 rfl rfl rfl rfl (fun h hE => ?_)
                    rw [← eS985] at hE
                    exact zW.sub (hJ932 S985 _ hE hf) [0, 1, 2, 3, 4, 5] rfl rfl rfl rfl
                by_cases c928 : ¬ r2 = 106
                · have hf := zif_t hf c928
                  refine z_icmp_ne_t (tgt := 186) dX12_readClause_173 (by decide) c928 ?_
                  exact zW.sub (hJ929 S562 _ hE hf) [3, 4, 5, 2, 1, 0] rfl rfl rfl rfl
                · have hf := zif_f hf c928
                  refine z_icmp_ne_f (tgt := 186) dX12_readClause_173 (by decide) c928 ?_
                  refine z_aload_n dX12_readClause_176 rfl ?_
                  refine z_dup dX12_readClause_177 rfl ?_
                  refine z_getI dX12_readClause_178 tF_12_218 hE dr_41 rfl rfl ?_
                  refine z_iconst (v := 1) dX12_readClause_181 (by decide) ?_
                  refine z_iadd dX12_readClause_182 ?_
                  obtain ⟨S986, eS986, hf⟩ := zl_some hf
                  refine z_putI dX12_readClause_183 tF_12_218 hE dr_41 rfl rfl rfl rfl (fun h hE => ?_)
                  rw [← eS986] at hE
                  exact zW.sub (hJ929 S986 _ hE hf) [3, 4, 5, 2, 1, 0] rfl rfl rfl rfl
              · have hf := zif_f hf c927
                refine z_icmp_ne_f (tgt := 166) dX12_readClause_158 (by decide) c927 ?_
                refine z_ldcS dX12_readClause_161 tK_12_229 ?_
                refine z_goto (tgt := 168) dX12_readClause_163 (by decide) ?_
                refine z_astore (lv' := [(5, .ref 1000102), (4, .ref 47), (3, .int q565), (0, .ref 41), (1, .int r2), (2, .int 1)]) dX12_readClause_168 (by decide) rfl ?_
                refine z_iload_n dX12_readClause_170 rfl ?_
                refine z_bipush (v := 106) dX12_readClause_171 (by decide) ?_
                obtain ⟨J988, eJ988, hf⟩ := zl_some hf
                have hJ988 : ∀ (S989 : zS) (h : Nat → va_E), zE zDr h0 S989 (h, t) → J988 S989 = some R → zW (ia_P0 L xs fm) ia_nx (d + 5) 12 false cX12_readClause 8 (none) 186 [(0, .ref 41), (1, .int r2), (2, .int 1), (3, .int q565), (4, .ref 47), (5, .ref 1000102)] [] (h, t) (zQv zDr h0 t R) := by
                  intro S989 h hE hf
                  rw [eJ988] at hf
                  refine z_iload_n dX12_readClause_186 rfl ?_
                  refine z_bipush (v := 104) dX12_readClause_187 (by decide) ?_
                  obtain ⟨J991, eJ991, hf⟩ := zl_some hf
                  have hJ991 : ∀ (S992 : zS) (h : Nat → va_E), zE zDr h0 S992 (h, t) → J991 S992 = some R → zW (ia_P0 L xs fm) ia_nx (d + 5) 12 false cX12_readClause 8 (none) 202 [(0, .ref 41), (1, .int r2), (2, .int 1), (3, .int q565), (4, .ref 47), (5, .ref 1000102)] [] (h, t) (zQv zDr h0 t R) := by
                    intro S992 h hE hf
                    rw [eJ991] at hf
                    refine z_iload_n dX12_readClause_202 rfl ?_
                    refine z_bipush (v := 116) dX12_readClause_203 (by decide) ?_
                    obtain ⟨J994, eJ994, hf⟩ := zl_some hf
                    have hJ994 : ∀ (S995 : zS) (h : Nat → va_E), zE zDr h0 S995 (h, t) → J994 S995 = some R → zW (ia_P0 L xs fm) ia_nx (d + 5) 12 false cX12_readClause 8 (none) 218 [(0, .ref 41), (1, .int r2), (2, .int 1), (3, .int q565), (4, .ref 47), (5, .ref 1000102)] [] (h, t) (zQv zDr h0 t R) := by
                      intro S995 h hE hf
                      rw [eJ994] at hf
                      refine z_iconst (v := 0) dX12_readClause_218 (by decide) ?_
                      refine z_istore (lv' := [(6, .int 0), (0, .ref 41), (1, .int r2), (2, .int 1), (3, .int q565), (4, .ref 47), (5, .ref 1000102)]) dX12_readClause_219 (by decide) rfl ?_
                      refine zW.sub (w_X12_readClause_L221g hn1 hn2 d (fun q1007 S1006 h hE hf => ?_) zN 0 S995 h hE hf) [1, 2, 3, 4, 5, 6, 0] rfl rfl rfl rfl
                      try dsimp only at hf
                      refine z_iconst (v := 0) dX12_readClause_250 (by decide) ?_
                      refine z_istore (lv' := [(6, .int 0), (0, .ref 41), (1, .int r2), (2, .int 1), (3, .int q565), (4, .ref 47), (5, .ref 1000102)]) dX12_readClause_251 (by decide) rfl ?_
                      refine z_aload dX12_readClause_253 rfl ?_
                      refine z_aload_n dX12_readClause_255 rfl ?_
                      obtain ⟨r1009, S1008, k1010, hf⟩ := zb_some hf
                      refine z_callVi dX12_readClause_256 tM_12_135 mt_12011 (Nat.le_of_ble_eq_true rfl) rfl rfl (z_recv hE dr_41 rfl) rfl (ia_oks_le hn1 rfl) (Nat.le_of_ble_eq_true rfl) (w_X12_look hn1 hn2 (d + 4) hE k1010) (fun h hE => ?_)
                      obtain ⟨r1012, S1011, k1013, hf⟩ := zb_some hf
                      refine z_callSi dX12_readClause_259 tM_12_237 (by decide) mt_12014 (Nat.le_of_ble_eq_true rfl) rfl rfl (ia_oks_le hn1 rfl) (Nat.le_of_ble_eq_true rfl) (w_X12_placeOf_1000102 hn1 hn2 (d + 0) hE k1013) (fun h hE => ?_)
                      refine z_istore (lv' := [(7, .int r1012), (6, .int 0), (0, .ref 41), (1, .int r2), (2, .int 1), (3, .int q565), (4, .ref 47), (5, .ref 1000102)]) dX12_readClause_262 (by decide) rfl ?_
                      refine zW.sub (w_X12_readClause_L264g hn1 hn2 d (fun q1041 q1042 S1040 h hE hf => ?_) zN 0 r1012 S1011 h hE hf) [2, 3, 4, 5, 6, 7, 1, 0] rfl rfl rfl rfl
                      try dsimp only at hf
                      have e_ := Option.some.inj hf
                      subst e_
                      exact z_vreturn dX12_readClause_347 rfl ⟨h, rfl, rfl, hE⟩
                    by_cases c993 : ¬ r2 = 116
                    · have hf := zif_t hf c993
                      refine z_icmp_ne_t (tgt := 218) dX12_readClause_205 (by decide) c993 ?_
                      exact zW.sub (hJ994 S992 _ hE hf) [0, 1, 2, 3, 4, 5] rfl rfl rfl rfl
                    · have hf := zif_f hf c993
                      refine z_icmp_ne_f (tgt := 218) dX12_readClause_205 (by decide) c993 ?_
                      refine z_aload_n dX12_readClause_208 rfl ?_
                      refine z_dup dX12_readClause_209 rfl ?_
                      refine z_getI dX12_readClause_210 tF_12_224 hE dr_41 rfl rfl ?_
                      refine z_iconst (v := 1) dX12_readClause_213 (by decide) ?_
                      refine z_iadd dX12_readClause_214 ?_
                      obtain ⟨S1043, eS1043, hf⟩ := zl_some hf
                      refine z_putI dX12_readClause_215 tF_12_224 hE dr_41 rfl rfl rfl rfl (fun h hE => ?_)
                      rw [← eS1043] at hE
                      exact zW.sub (hJ994 S1043 _ hE hf) [0, 1, 2, 3, 4, 5] rfl rfl rfl rfl
                  by_cases c990 : ¬ r2 = 104
                  · have hf := zif_t hf c990
                    refine z_icmp_ne_t (tgt := 202) dX12_readClause_189 (by decide) c990 ?_
                    exact zW.sub (hJ991 S989 _ hE hf) [0, 1, 2, 3, 4, 5] rfl rfl rfl rfl
                  · have hf := zif_f hf c990
                    refine z_icmp_ne_f (tgt := 202) dX12_readClause_189 (by decide) c990 ?_
                    refine z_aload_n dX12_readClause_192 rfl ?_
                    refine z_dup dX12_readClause_193 rfl ?_
                    refine z_getI dX12_readClause_194 tF_12_221 hE dr_41 rfl rfl ?_
                    refine z_iconst (v := 1) dX12_readClause_197 (by decide) ?_
                    refine z_iadd dX12_readClause_198 ?_
                    obtain ⟨S1044, eS1044, hf⟩ := zl_some hf
                    refine z_putI dX12_readClause_199 tF_12_221 hE dr_41 rfl rfl rfl rfl (fun h hE => ?_)
                    rw [← eS1044] at hE
                    exact zW.sub (hJ991 S1044 _ hE hf) [0, 1, 2, 3, 4, 5] rfl rfl rfl rfl
                by_cases c987 : ¬ r2 = 106
                · have hf := zif_t hf c987
                  refine z_icmp_ne_t (tgt := 186) dX12_readClause_173 (by decide) c987 ?_
                  exact zW.sub (hJ988 S562 _ hE hf) [3, 4, 5, 2, 1, 0] rfl rfl rfl rfl
                · have hf := zif_f hf c987
                  refine z_icmp_ne_f (tgt := 186) dX12_readClause_173 (by decide) c987 ?_
                  refine z_aload_n dX12_readClause_176 rfl ?_
                  refine z_dup dX12_readClause_177 rfl ?_
                  refine z_getI dX12_readClause_178 tF_12_218 hE dr_41 rfl rfl ?_
                  refine z_iconst (v := 1) dX12_readClause_181 (by decide) ?_
                  refine z_iadd dX12_readClause_182 ?_
                  obtain ⟨S1045, eS1045, hf⟩ := zl_some hf
                  refine z_putI dX12_readClause_183 tF_12_218 hE dr_41 rfl rfl rfl rfl (fun h hE => ?_)
                  rw [← eS1045] at hE
                  exact zW.sub (hJ988 S1045 _ hE hf) [3, 4, 5, 2, 1, 0] rfl rfl rfl rfl
            · have hf := zif_f hf c926
              refine z_icmp_ne_f (tgt := 155) dX12_readClause_147 (by decide) c926 ?_
              refine z_ldcS dX12_readClause_150 tK_12_227 ?_
              refine z_goto (tgt := 168) dX12_readClause_152 (by decide) ?_
              refine z_astore (lv' := [(5, .ref 1000101), (4, .ref 47), (3, .int q565), (0, .ref 41), (1, .int r2), (2, .int 1)]) dX12_readClause_168 (by decide) rfl ?_
              refine z_iload_n dX12_readClause_170 rfl ?_
              refine z_bipush (v := 106) dX12_readClause_171 (by decide) ?_
              obtain ⟨J1047, eJ1047, hf⟩ := zl_some hf
              have hJ1047 : ∀ (S1048 : zS) (h : Nat → va_E), zE zDr h0 S1048 (h, t) → J1047 S1048 = some R → zW (ia_P0 L xs fm) ia_nx (d + 5) 12 false cX12_readClause 8 (none) 186 [(0, .ref 41), (1, .int r2), (2, .int 1), (3, .int q565), (4, .ref 47), (5, .ref 1000101)] [] (h, t) (zQv zDr h0 t R) := by
                intro S1048 h hE hf
                rw [eJ1047] at hf
                refine z_iload_n dX12_readClause_186 rfl ?_
                refine z_bipush (v := 104) dX12_readClause_187 (by decide) ?_
                obtain ⟨J1050, eJ1050, hf⟩ := zl_some hf
                have hJ1050 : ∀ (S1051 : zS) (h : Nat → va_E), zE zDr h0 S1051 (h, t) → J1050 S1051 = some R → zW (ia_P0 L xs fm) ia_nx (d + 5) 12 false cX12_readClause 8 (none) 202 [(0, .ref 41), (1, .int r2), (2, .int 1), (3, .int q565), (4, .ref 47), (5, .ref 1000101)] [] (h, t) (zQv zDr h0 t R) := by
                  intro S1051 h hE hf
                  rw [eJ1050] at hf
                  refine z_iload_n dX12_readClause_202 rfl ?_
                  refine z_bipush (v := 116) dX12_readClause_203 (by decide) ?_
                  obtain ⟨J1053, eJ1053, hf⟩ := zl_some hf
                  have hJ1053 : ∀ (S1054 : zS) (h : Nat → va_E), zE zDr h0 S1054 (h, t) → J1053 S1054 = some R → zW (ia_P0 L xs fm) ia_nx (d + 5) 12 false cX12_readClause 8 (none) 218 [(0, .ref 41), (1, .int r2), (2, .int 1), (3, .int q565), (4, .ref 47), (5, .ref 1000101)] [] (h, t) (zQv zDr h0 t R) := by
                    intro S1054 h hE hf
                    rw [eJ1053] at hf
                    refine z_iconst (v := 0) dX12_readClause_218 (by decide) ?_
                    refine z_istore (lv' := [(6, .int 0), (0, .ref 41), (1, .int r2), (2, .int 1), (3, .int q565), (4, .ref 47), (5, .ref 1000101)]) dX12_readClause_219 (by decide) rfl ?_
                    refine zW.sub (w_X12_readClause_L221h hn1 hn2 d (fun q1066 S1065 h hE hf => ?_) zN 0 S1054 h hE hf) [1, 2, 3, 4, 5, 6, 0] rfl rfl rfl rfl
                    try dsimp only at hf
                    refine z_iconst (v := 0) dX12_readClause_250 (by decide) ?_
                    refine z_istore (lv' := [(6, .int 0), (0, .ref 41), (1, .int r2), (2, .int 1), (3, .int q565), (4, .ref 47), (5, .ref 1000101)]) dX12_readClause_251 (by decide) rfl ?_
                    refine z_aload dX12_readClause_253 rfl ?_
                    refine z_aload_n dX12_readClause_255 rfl ?_
                    obtain ⟨r1068, S1067, k1069, hf⟩ := zb_some hf
                    refine z_callVi dX12_readClause_256 tM_12_135 mt_12011 (Nat.le_of_ble_eq_true rfl) rfl rfl (z_recv hE dr_41 rfl) rfl (ia_oks_le hn1 rfl) (Nat.le_of_ble_eq_true rfl) (w_X12_look hn1 hn2 (d + 4) hE k1069) (fun h hE => ?_)
                    obtain ⟨r1071, S1070, k1072, hf⟩ := zb_some hf
                    refine z_callSi dX12_readClause_259 tM_12_237 (by decide) mt_12014 (Nat.le_of_ble_eq_true rfl) rfl rfl (ia_oks_le hn1 rfl) (Nat.le_of_ble_eq_true rfl) (w_X12_placeOf_1000101 hn1 hn2 (d + 0) hE k1072) (fun h hE => ?_)
                    refine z_istore (lv' := [(7, .int r1071), (6, .int 0), (0, .ref 41), (1, .int r2), (2, .int 1), (3, .int q565), (4, .ref 47), (5, .ref 1000101)]) dX12_readClause_262 (by decide) rfl ?_
                    refine zW.sub (w_X12_readClause_L264h hn1 hn2 d (fun q1100 q1101 S1099 h hE hf => ?_) zN 0 r1071 S1070 h hE hf) [2, 3, 4, 5, 6, 7, 1, 0] rfl rfl rfl rfl
                    try dsimp only at hf
                    have e_ := Option.some.inj hf
                    subst e_
                    exact z_vreturn dX12_readClause_347 rfl ⟨h, rfl, rfl, hE⟩
                  by_cases c1052 : ¬ r2 = 116
                  · have hf := zif_t hf c1052
                    refine z_icmp_ne_t (tgt := 218) dX12_readClause_205 (by decide) c1052 ?_
                    exact zW.sub (hJ1053 S1051 _ hE hf) [0, 1, 2, 3, 4, 5] rfl rfl rfl rfl
                  · have hf := zif_f hf c1052
                    refine z_icmp_ne_f (tgt := 218) dX12_readClause_205 (by decide) c1052 ?_
                    refine z_aload_n dX12_readClause_208 rfl ?_
                    refine z_dup dX12_readClause_209 rfl ?_
                    refine z_getI dX12_readClause_210 tF_12_224 hE dr_41 rfl rfl ?_
                    refine z_iconst (v := 1) dX12_readClause_213 (by decide) ?_
                    refine z_iadd dX12_readClause_214 ?_
                    obtain ⟨S1102, eS1102, hf⟩ := zl_some hf
                    refine z_putI dX12_readClause_215 tF_12_224 hE dr_41 rfl rfl rfl rfl (fun h hE => ?_)
                    rw [← eS1102] at hE
                    exact zW.sub (hJ1053 S1102 _ hE hf) [0, 1, 2, 3, 4, 5] rfl rfl rfl rfl
                by_cases c1049 : ¬ r2 = 104
                · have hf := zif_t hf c1049
                  refine z_icmp_ne_t (tgt := 202) dX12_readClause_189 (by decide) c1049 ?_
                  exact zW.sub (hJ1050 S1048 _ hE hf) [0, 1, 2, 3, 4, 5] rfl rfl rfl rfl
                · have hf := zif_f hf c1049
                  refine z_icmp_ne_f (tgt := 202) dX12_readClause_189 (by decide) c1049 ?_
                  refine z_aload_n dX12_readClause_192 rfl ?_
                  refine z_dup dX12_readClause_193 rfl ?_
                  refine z_getI dX12_readClause_194 tF_12_221 hE dr_41 rfl rfl ?_
                  refine z_iconst (v := 1) dX12_readClause_197 (by decide) ?_
                  refine z_iadd dX12_readClause_198 ?_
                  obtain ⟨S1103, eS1103, hf⟩ := zl_some hf
                  refine z_putI dX12_readClause_199 tF_12_221 hE dr_41 rfl rfl rfl rfl (fun h hE => ?_)
                  rw [← eS1103] at hE
                  exact zW.sub (hJ1050 S1103 _ hE hf) [0, 1, 2, 3, 4, 5] rfl rfl rfl rfl
              by_cases c1046 : ¬ r2 = 106
              · have hf := zif_t hf c1046
                refine z_icmp_ne_t (tgt := 186) dX12_readClause_173 (by decide) c1046 ?_
                exact zW.sub (hJ1047 S562 _ hE hf) [3, 4, 5, 2, 1, 0] rfl rfl rfl rfl
              · have hf := zif_f hf c1046
                refine z_icmp_ne_f (tgt := 186) dX12_readClause_173 (by decide) c1046 ?_
                refine z_aload_n dX12_readClause_176 rfl ?_
                refine z_dup dX12_readClause_177 rfl ?_
                refine z_getI dX12_readClause_178 tF_12_218 hE dr_41 rfl rfl ?_
                refine z_iconst (v := 1) dX12_readClause_181 (by decide) ?_
                refine z_iadd dX12_readClause_182 ?_
                obtain ⟨S1104, eS1104, hf⟩ := zl_some hf
                refine z_putI dX12_readClause_183 tF_12_218 hE dr_41 rfl rfl rfl rfl (fun h hE => ?_)
                rw [← eS1104] at hE
                exact zW.sub (hJ1047 S1104 _ hE hf) [3, 4, 5, 2, 1, 0] rfl rfl rfl rfl
        by_cases c563 : ¬ r2 = 106
        · have hf := zif_t hf c563
          refine z_icmp_ne_t (tgt := 90) dX12_readClause_77 (by decide) c563 ?_
          refine z_iload_n dX12_readClause_90 rfl ?_
          refine z_bipush (v := 104) dX12_readClause_91 (by decide) ?_
          by_cases c1105 : ¬ r2 = 104
          · have hf := zif_t hf c1105
            refine z_icmp_ne_t (tgt := 105) dX12_readClause_93 (by decide) c1105 ?_
            refine z_iconst (v := 2) dX12_readClause_105 (by decide) ?_
            refine z_aload_n dX12_readClause_106 rfl ?_
            refine z_getI dX12_readClause_107 tF_12_224 hE dr_41 rfl rfl ?_
            refine z_imul dX12_readClause_110 ?_
            exact zW.sub (hJ564 (2 * (S562.1 41 29)) _ hE hf) [1, 2, 0] rfl rfl rfl rfl
          · have hf := zif_f hf c1105
            refine z_icmp_ne_f (tgt := 105) dX12_readClause_93 (by decide) c1105 ?_
            refine z_iconst (v := 5) dX12_readClause_96 (by decide) ?_
            refine z_aload_n dX12_readClause_97 rfl ?_
            refine z_getI dX12_readClause_98 tF_12_221 hE dr_41 rfl rfl ?_
            refine z_imul dX12_readClause_101 ?_
            refine z_goto (tgt := 111) dX12_readClause_102 (by decide) ?_
            exact zW.sub (hJ564 (5 * (S562.1 41 28)) _ hE hf) [1, 2, 0] rfl rfl rfl rfl
        · have hf := zif_f hf c563
          refine z_icmp_ne_f (tgt := 90) dX12_readClause_77 (by decide) c563 ?_
          refine z_bipush (v := 6) dX12_readClause_80 (by decide) ?_
          refine z_aload_n dX12_readClause_82 rfl ?_
          refine z_getI dX12_readClause_83 tF_12_218 hE dr_41 rfl rfl ?_
          refine z_imul dX12_readClause_86 ?_
          refine z_goto (tgt := 111) dX12_readClause_87 (by decide) ?_
          exact zW.sub (hJ564 (6 * (S562.1 41 27)) _ hE hf) [1, 2, 0] rfl rfl rfl rfl
      · have hf := zif_f hf c561
        refine z_icmp_lt_f (tgt := 48) dX12_readClause_31 (by decide) c561 ?_
        exact zW.sub (hJ8 () _ hE hf) [0, 1] rfl rfl rfl rfl
  by_cases c4 : ¬ r2 = 106
  · have hf := zif_t hf c4
    refine z_icmp_ne_t (tgt := 19) dX12_readClause_8 (by decide) c4 ?_
    exact zW.sub (hJ5 () _ hE hf) [1, 0] rfl rfl rfl rfl
  · have hf := zif_f hf c4
    refine z_icmp_ne_f (tgt := 19) dX12_readClause_8 (by decide) c4 ?_
    refine z_aload_n dX12_readClause_11 rfl ?_
    refine z_getI dX12_readClause_12 tF_12_218 hE dr_41 rfl rfl ?_
    refine z_iconst (v := 4) dX12_readClause_15 (by decide) ?_
    by_cases c1106 : (S1.1 41 27) < 4
    · have hf := zif_t hf c1106
      refine z_icmp_lt_t (tgt := 48) dX12_readClause_16 (by decide) c1106 ?_
      refine z_iconst (v := 1) dX12_readClause_48 (by decide) ?_
      refine z_goto (tgt := 53) dX12_readClause_49 (by decide) ?_
      refine z_istore_n (lv' := [(2, .int 1), (1, .int r2), (0, .ref 41)]) dX12_readClause_53 (by decide) rfl ?_
      refine z_iload_n dX12_readClause_54 rfl ?_
      refine z_if_ne_t (tgt := 64) dX12_readClause_55 (by decide) (by decide) ?_
      refine z_aload_n dX12_readClause_64 rfl ?_
      refine z_dup dX12_readClause_65 rfl ?_
      refine z_getI dX12_readClause_66 tF_12_116 hE dr_41 rfl rfl ?_
      refine z_iconst (v := 1) dX12_readClause_69 (by decide) ?_
      refine z_iadd dX12_readClause_70 ?_
      obtain ⟨S1107, eS1107, hf⟩ := zl_some hf
      refine z_putI dX12_readClause_71 tF_12_116 hE dr_41 rfl rfl rfl rfl (fun h hE => ?_)
      rw [← eS1107] at hE
      refine z_iload_n dX12_readClause_74 rfl ?_
      refine z_bipush (v := 106) dX12_readClause_75 (by decide) ?_
      obtain ⟨J1109, eJ1109, hf⟩ := zl_some hf
      have hJ1109 : ∀ (q1110 : Int32) (h : Nat → va_E), zE zDr h0 S1107 (h, t) → J1109 q1110 = some R → zW (ia_P0 L xs fm) ia_nx (d + 5) 12 false cX12_readClause 8 (none) 111 [(0, .ref 41), (1, .int r2), (2, .int 1)] [.int q1110] (h, t) (zQv zDr h0 t R) := by
        intro q1110 h hE hf
        rw [eJ1109] at hf
        refine z_istore_n (lv' := [(3, .int q1110), (0, .ref 41), (1, .int r2), (2, .int 1)]) dX12_readClause_111 (by decide) rfl ?_
        refine z_iload_n dX12_readClause_112 rfl ?_
        refine z_bipush (v := 106) dX12_readClause_113 (by decide) ?_
        by_cases c1111 : ¬ r2 = 106
        · have hf := zif_t hf c1111
          refine z_icmp_ne_t (tgt := 125) dX12_readClause_115 (by decide) c1111 ?_
          refine z_iload_n dX12_readClause_125 rfl ?_
          refine z_bipush (v := 104) dX12_readClause_126 (by decide) ?_
          by_cases c1112 : ¬ r2 = 104
          · have hf := zif_t hf c1112
            refine z_icmp_ne_t (tgt := 138) dX12_readClause_128 (by decide) c1112 ?_
            refine z_aload_n dX12_readClause_138 rfl ?_
            refine z_getC dX12_readClause_139 tF_12_52 hE dr_41 rfl rfl ?_
            refine z_astore (lv' := [(4, .ref 51), (3, .int q1110), (0, .ref 41), (1, .int r2), (2, .int 1)]) dX12_readClause_142 (by decide) rfl ?_
            refine z_iload_n dX12_readClause_144 rfl ?_
            refine z_bipush (v := 106) dX12_readClause_145 (by decide) ?_
            by_cases c1113 : ¬ r2 = 106
            · have hf := zif_t hf c1113
              refine z_icmp_ne_t (tgt := 155) dX12_readClause_147 (by decide) c1113 ?_
              refine z_iload_n dX12_readClause_155 rfl ?_
              refine z_bipush (v := 104) dX12_readClause_156 (by decide) ?_
              by_cases c1114 : ¬ r2 = 104
              · have hf := zif_t hf c1114
                refine z_icmp_ne_t (tgt := 166) dX12_readClause_158 (by decide) c1114 ?_
                refine z_ldcS dX12_readClause_166 tK_12_231 ?_
                refine z_astore (lv' := [(5, .ref 1000103), (4, .ref 51), (3, .int q1110), (0, .ref 41), (1, .int r2), (2, .int 1)]) dX12_readClause_168 (by decide) rfl ?_
                refine z_iload_n dX12_readClause_170 rfl ?_
                refine z_bipush (v := 106) dX12_readClause_171 (by decide) ?_
                obtain ⟨J1116, eJ1116, hf⟩ := zl_some hf
                have hJ1116 : ∀ (S1117 : zS) (h : Nat → va_E), zE zDr h0 S1117 (h, t) → J1116 S1117 = some R → zW (ia_P0 L xs fm) ia_nx (d + 5) 12 false cX12_readClause 8 (none) 186 [(0, .ref 41), (1, .int r2), (2, .int 1), (3, .int q1110), (4, .ref 51), (5, .ref 1000103)] [] (h, t) (zQv zDr h0 t R) := by
                  intro S1117 h hE hf
                  rw [eJ1116] at hf
                  refine z_iload_n dX12_readClause_186 rfl ?_
                  refine z_bipush (v := 104) dX12_readClause_187 (by decide) ?_
                  obtain ⟨J1119, eJ1119, hf⟩ := zl_some hf
                  have hJ1119 : ∀ (S1120 : zS) (h : Nat → va_E), zE zDr h0 S1120 (h, t) → J1119 S1120 = some R → zW (ia_P0 L xs fm) ia_nx (d + 5) 12 false cX12_readClause 8 (none) 202 [(0, .ref 41), (1, .int r2), (2, .int 1), (3, .int q1110), (4, .ref 51), (5, .ref 1000103)] [] (h, t) (zQv zDr h0 t R) := by
                    intro S1120 h hE hf
                    rw [eJ1119] at hf
                    refine z_iload_n dX12_readClause_202 rfl ?_
                    refine z_bipush (v := 116) dX12_readClause_203 (by decide) ?_
                    obtain ⟨J1122, eJ1122, hf⟩ := zl_some hf
                    have hJ1122 : ∀ (S1123 : zS) (h : Nat → va_E), zE zDr h0 S1123 (h, t) → J1122 S1123 = some R → zW (ia_P0 L xs fm) ia_nx (d + 5) 12 false cX12_readClause 8 (none) 218 [(0, .ref 41), (1, .int r2), (2, .int 1), (3, .int q1110), (4, .ref 51), (5, .ref 1000103)] [] (h, t) (zQv zDr h0 t R) := by
                      intro S1123 h hE hf
                      rw [eJ1122] at hf
                      refine z_iconst (v := 0) dX12_readClause_218 (by decide) ?_
                      refine z_istore (lv' := [(6, .int 0), (0, .ref 41), (1, .int r2), (2, .int 1), (3, .int q1110), (4, .ref 51), (5, .ref 1000103)]) dX12_readClause_219 (by decide) rfl ?_
                      refine zW.sub (w_X12_readClause_L221 hn1 hn2 d (fun q1135 S1134 h hE hf => ?_) zN 0 S1123 h hE hf) [1, 2, 3, 4, 5, 6, 0] rfl rfl rfl rfl
                      try dsimp only at hf
                      refine z_iconst (v := 0) dX12_readClause_250 (by decide) ?_
                      refine z_istore (lv' := [(6, .int 0), (0, .ref 41), (1, .int r2), (2, .int 1), (3, .int q1110), (4, .ref 51), (5, .ref 1000103)]) dX12_readClause_251 (by decide) rfl ?_
                      refine z_aload dX12_readClause_253 rfl ?_
                      refine z_aload_n dX12_readClause_255 rfl ?_
                      obtain ⟨r1137, S1136, k1138, hf⟩ := zb_some hf
                      refine z_callVi dX12_readClause_256 tM_12_135 mt_12011 (Nat.le_of_ble_eq_true rfl) rfl rfl (z_recv hE dr_41 rfl) rfl (ia_oks_le hn1 rfl) (Nat.le_of_ble_eq_true rfl) (w_X12_look hn1 hn2 (d + 4) hE k1138) (fun h hE => ?_)
                      obtain ⟨r1140, S1139, k1141, hf⟩ := zb_some hf
                      refine z_callSi dX12_readClause_259 tM_12_237 (by decide) mt_12014 (Nat.le_of_ble_eq_true rfl) rfl rfl (ia_oks_le hn1 rfl) (Nat.le_of_ble_eq_true rfl) (w_X12_placeOf_1000103 hn1 hn2 (d + 0) hE k1141) (fun h hE => ?_)
                      refine z_istore (lv' := [(7, .int r1140), (6, .int 0), (0, .ref 41), (1, .int r2), (2, .int 1), (3, .int q1110), (4, .ref 51), (5, .ref 1000103)]) dX12_readClause_262 (by decide) rfl ?_
                      refine zW.sub (w_X12_readClause_L264 hn1 hn2 d (fun q1169 q1170 S1168 h hE hf => ?_) zN 0 r1140 S1139 h hE hf) [2, 3, 4, 5, 6, 7, 1, 0] rfl rfl rfl rfl
                      try dsimp only at hf
                      have e_ := Option.some.inj hf
                      subst e_
                      exact z_vreturn dX12_readClause_347 rfl ⟨h, rfl, rfl, hE⟩
                    by_cases c1121 : ¬ r2 = 116
                    · have hf := zif_t hf c1121
                      refine z_icmp_ne_t (tgt := 218) dX12_readClause_205 (by decide) c1121 ?_
                      exact zW.sub (hJ1122 S1120 _ hE hf) [0, 1, 2, 3, 4, 5] rfl rfl rfl rfl
                    · have hf := zif_f hf c1121
                      refine z_icmp_ne_f (tgt := 218) dX12_readClause_205 (by decide) c1121 ?_
                      refine z_aload_n dX12_readClause_208 rfl ?_
                      refine z_dup dX12_readClause_209 rfl ?_
                      refine z_getI dX12_readClause_210 tF_12_224 hE dr_41 rfl rfl ?_
                      refine z_iconst (v := 1) dX12_readClause_213 (by decide) ?_
                      refine z_iadd dX12_readClause_214 ?_
                      obtain ⟨S1171, eS1171, hf⟩ := zl_some hf
                      refine z_putI dX12_readClause_215 tF_12_224 hE dr_41 rfl rfl rfl rfl (fun h hE => ?_)
                      rw [← eS1171] at hE
                      exact zW.sub (hJ1122 S1171 _ hE hf) [0, 1, 2, 3, 4, 5] rfl rfl rfl rfl
                  by_cases c1118 : ¬ r2 = 104
                  · have hf := zif_t hf c1118
                    refine z_icmp_ne_t (tgt := 202) dX12_readClause_189 (by decide) c1118 ?_
                    exact zW.sub (hJ1119 S1117 _ hE hf) [0, 1, 2, 3, 4, 5] rfl rfl rfl rfl
                  · have hf := zif_f hf c1118
                    refine z_icmp_ne_f (tgt := 202) dX12_readClause_189 (by decide) c1118 ?_
                    refine z_aload_n dX12_readClause_192 rfl ?_
                    refine z_dup dX12_readClause_193 rfl ?_
                    refine z_getI dX12_readClause_194 tF_12_221 hE dr_41 rfl rfl ?_
                    refine z_iconst (v := 1) dX12_readClause_197 (by decide) ?_
                    refine z_iadd dX12_readClause_198 ?_
                    obtain ⟨S1172, eS1172, hf⟩ := zl_some hf
                    refine z_putI dX12_readClause_199 tF_12_221 hE dr_41 rfl rfl rfl rfl (fun h hE => ?_)
                    rw [← eS1172] at hE
                    exact zW.sub (hJ1119 S1172 _ hE hf) [0, 1, 2, 3, 4, 5] rfl rfl rfl rfl
                by_cases c1115 : ¬ r2 = 106
                · have hf := zif_t hf c1115
                  refine z_icmp_ne_t (tgt := 186) dX12_readClause_173 (by decide) c1115 ?_
                  exact zW.sub (hJ1116 S1107 _ hE hf) [3, 4, 5, 2, 1, 0] rfl rfl rfl rfl
                · have hf := zif_f hf c1115
                  refine z_icmp_ne_f (tgt := 186) dX12_readClause_173 (by decide) c1115 ?_
                  refine z_aload_n dX12_readClause_176 rfl ?_
                  refine z_dup dX12_readClause_177 rfl ?_
                  refine z_getI dX12_readClause_178 tF_12_218 hE dr_41 rfl rfl ?_
                  refine z_iconst (v := 1) dX12_readClause_181 (by decide) ?_
                  refine z_iadd dX12_readClause_182 ?_
                  obtain ⟨S1173, eS1173, hf⟩ := zl_some hf
                  refine z_putI dX12_readClause_183 tF_12_218 hE dr_41 rfl rfl rfl rfl (fun h hE => ?_)
                  rw [← eS1173] at hE
                  exact zW.sub (hJ1116 S1173 _ hE hf) [3, 4, 5, 2, 1, 0] rfl rfl rfl rfl
              · have hf := zif_f hf c1114
                refine z_icmp_ne_f (tgt := 166) dX12_readClause_158 (by decide) c1114 ?_
                refine z_ldcS dX12_readClause_161 tK_12_229 ?_
                refine z_goto (tgt := 168) dX12_readClause_163 (by decide) ?_
                refine z_astore (lv' := [(5, .ref 1000102), (4, .ref 51), (3, .int q1110), (0, .ref 41), (1, .int r2), (2, .int 1)]) dX12_readClause_168 (by decide) rfl ?_
                refine z_iload_n dX12_readClause_170 rfl ?_
                refine z_bipush (v := 106) dX12_readClause_171 (by decide) ?_
                obtain ⟨J1175, eJ1175, hf⟩ := zl_some hf
                have hJ1175 : ∀ (S1176 : zS) (h : Nat → va_E), zE zDr h0 S1176 (h, t) → J1175 S1176 = some R → zW (ia_P0 L xs fm) ia_nx (d + 5) 12 false cX12_readClause 8 (none) 186 [(0, .ref 41), (1, .int r2), (2, .int 1), (3, .int q1110), (4, .ref 51), (5, .ref 1000102)] [] (h, t) (zQv zDr h0 t R) := by
                  intro S1176 h hE hf
                  rw [eJ1175] at hf
                  refine z_iload_n dX12_readClause_186 rfl ?_
                  refine z_bipush (v := 104) dX12_readClause_187 (by decide) ?_
                  obtain ⟨J1178, eJ1178, hf⟩ := zl_some hf
                  have hJ1178 : ∀ (S1179 : zS) (h : Nat → va_E), zE zDr h0 S1179 (h, t) → J1178 S1179 = some R → zW (ia_P0 L xs fm) ia_nx (d + 5) 12 false cX12_readClause 8 (none) 202 [(0, .ref 41), (1, .int r2), (2, .int 1), (3, .int q1110), (4, .ref 51), (5, .ref 1000102)] [] (h, t) (zQv zDr h0 t R) := by
                    intro S1179 h hE hf
                    rw [eJ1178] at hf
                    refine z_iload_n dX12_readClause_202 rfl ?_
                    refine z_bipush (v := 116) dX12_readClause_203 (by decide) ?_
                    obtain ⟨J1181, eJ1181, hf⟩ := zl_some hf
                    have hJ1181 : ∀ (S1182 : zS) (h : Nat → va_E), zE zDr h0 S1182 (h, t) → J1181 S1182 = some R → zW (ia_P0 L xs fm) ia_nx (d + 5) 12 false cX12_readClause 8 (none) 218 [(0, .ref 41), (1, .int r2), (2, .int 1), (3, .int q1110), (4, .ref 51), (5, .ref 1000102)] [] (h, t) (zQv zDr h0 t R) := by
                      intro S1182 h hE hf
                      rw [eJ1181] at hf
                      refine z_iconst (v := 0) dX12_readClause_218 (by decide) ?_
                      refine z_istore (lv' := [(6, .int 0), (0, .ref 41), (1, .int r2), (2, .int 1), (3, .int q1110), (4, .ref 51), (5, .ref 1000102)]) dX12_readClause_219 (by decide) rfl ?_
                      refine zW.sub (w_X12_readClause_L221a hn1 hn2 d (fun q1194 S1193 h hE hf => ?_) zN 0 S1182 h hE hf) [1, 2, 3, 4, 5, 6, 0] rfl rfl rfl rfl
                      try dsimp only at hf
                      refine z_iconst (v := 0) dX12_readClause_250 (by decide) ?_
                      refine z_istore (lv' := [(6, .int 0), (0, .ref 41), (1, .int r2), (2, .int 1), (3, .int q1110), (4, .ref 51), (5, .ref 1000102)]) dX12_readClause_251 (by decide) rfl ?_
                      refine z_aload dX12_readClause_253 rfl ?_
                      refine z_aload_n dX12_readClause_255 rfl ?_
                      obtain ⟨r1196, S1195, k1197, hf⟩ := zb_some hf
                      refine z_callVi dX12_readClause_256 tM_12_135 mt_12011 (Nat.le_of_ble_eq_true rfl) rfl rfl (z_recv hE dr_41 rfl) rfl (ia_oks_le hn1 rfl) (Nat.le_of_ble_eq_true rfl) (w_X12_look hn1 hn2 (d + 4) hE k1197) (fun h hE => ?_)
                      obtain ⟨r1199, S1198, k1200, hf⟩ := zb_some hf
                      refine z_callSi dX12_readClause_259 tM_12_237 (by decide) mt_12014 (Nat.le_of_ble_eq_true rfl) rfl rfl (ia_oks_le hn1 rfl) (Nat.le_of_ble_eq_true rfl) (w_X12_placeOf_1000102 hn1 hn2 (d + 0) hE k1200) (fun h hE => ?_)
                      refine z_istore (lv' := [(7, .int r1199), (6, .int 0), (0, .ref 41), (1, .int r2), (2, .int 1), (3, .int q1110), (4, .ref 51), (5, .ref 1000102)]) dX12_readClause_262 (by decide) rfl ?_
                      refine zW.sub (w_X12_readClause_L264a hn1 hn2 d (fun q1228 q1229 S1227 h hE hf => ?_) zN 0 r1199 S1198 h hE hf) [2, 3, 4, 5, 6, 7, 1, 0] rfl rfl rfl rfl
                      try dsimp only at hf
                      have e_ := Option.some.inj hf
                      subst e_
                      exact z_vreturn dX12_readClause_347 rfl ⟨h, rfl, rfl, hE⟩
                    by_cases c1180 : ¬ r2 = 116
                    · have hf := zif_t hf c1180
                      refine z_icmp_ne_t (tgt := 218) dX12_readClause_205 (by decide) c1180 ?_
                      exact zW.sub (hJ1181 S1179 _ hE hf) [0, 1, 2, 3, 4, 5] rfl rfl rfl rfl
                    · have hf := zif_f hf c1180
                      refine z_icmp_ne_f (tgt := 218) dX12_readClause_205 (by decide) c1180 ?_
                      refine z_aload_n dX12_readClause_208 rfl ?_
                      refine z_dup dX12_readClause_209 rfl ?_
                      refine z_getI dX12_readClause_210 tF_12_224 hE dr_41 rfl rfl ?_
                      refine z_iconst (v := 1) dX12_readClause_213 (by decide) ?_
                      refine z_iadd dX12_readClause_214 ?_
                      obtain ⟨S1230, eS1230, hf⟩ := zl_some hf
                      refine z_putI dX12_readClause_215 tF_12_224 hE dr_41 rfl rfl rfl rfl (fun h hE => ?_)
                      rw [← eS1230] at hE
                      exact zW.sub (hJ1181 S1230 _ hE hf) [0, 1, 2, 3, 4, 5] rfl rfl rfl rfl
                  by_cases c1177 : ¬ r2 = 104
                  · have hf := zif_t hf c1177
                    refine z_icmp_ne_t (tgt := 202) dX12_readClause_189 (by decide) c1177 ?_
                    exact zW.sub (hJ1178 S1176 _ hE hf) [0, 1, 2, 3, 4, 5] rfl rfl rfl rfl
                  · have hf := zif_f hf c1177
                    refine z_icmp_ne_f (tgt := 202) dX12_readClause_189 (by decide) c1177 ?_
                    refine z_aload_n dX12_readClause_192 rfl ?_
                    refine z_dup dX12_readClause_193 rfl ?_
                    refine z_getI dX12_readClause_194 tF_12_221 hE dr_41 rfl rfl ?_
                    refine z_iconst (v := 1) dX12_readClause_197 (by decide) ?_
                    refine z_iadd dX12_readClause_198 ?_
                    obtain ⟨S1231, eS1231, hf⟩ := zl_some hf
                    refine z_putI dX12_readClause_199 tF_12_221 hE dr_41 rfl rfl rfl rfl (fun h hE => ?_)
                    rw [← eS1231] at hE
                    exact zW.sub (hJ1178 S1231 _ hE hf) [0, 1, 2, 3, 4, 5] rfl rfl rfl rfl
                by_cases c1174 : ¬ r2 = 106
                · have hf := zif_t hf c1174
                  refine z_icmp_ne_t (tgt := 186) dX12_readClause_173 (by decide) c1174 ?_
                  exact zW.sub (hJ1175 S1107 _ hE hf) [3, 4, 5, 2, 1, 0] rfl rfl rfl rfl
                · have hf := zif_f hf c1174
                  refine z_icmp_ne_f (tgt := 186) dX12_readClause_173 (by decide) c1174 ?_
                  refine z_aload_n dX12_readClause_176 rfl ?_
                  refine z_dup dX12_readClause_177 rfl ?_
                  refine z_getI dX12_readClause_178 tF_12_218 hE dr_41 rfl rfl ?_
                  refine z_iconst (v := 1) dX12_readClause_181 (by decide) ?_
                  refine z_iadd dX12_readClause_182 ?_
                  obtain ⟨S1232, eS1232, hf⟩ := zl_some hf
                  refine z_putI dX12_readClause_183 tF_12_218 hE dr_41 rfl rfl rfl rfl (fun h hE => ?_)
                  rw [← eS1232] at hE
                  exact zW.sub (hJ1175 S1232 _ hE hf) [3, 4, 5, 2, 1, 0] rfl rfl rfl rfl
            · have hf := zif_f hf c1113
              refine z_icmp_ne_f (tgt := 155) dX12_readClause_147 (by decide) c1113 ?_
              refine z_ldcS dX12_readClause_150 tK_12_227 ?_
              refine z_goto (tgt := 168) dX12_readClause_152 (by decide) ?_
              refine z_astore (lv' := [(5, .ref 1000101), (4, .ref 51), (3, .int q1110), (0, .ref 41), (1, .int r2), (2, .int 1)]) dX12_readClause_168 (by decide) rfl ?_
              refine z_iload_n dX12_readClause_170 rfl ?_
              refine z_bipush (v := 106) dX12_readClause_171 (by decide) ?_
              obtain ⟨J1234, eJ1234, hf⟩ := zl_some hf
              have hJ1234 : ∀ (S1235 : zS) (h : Nat → va_E), zE zDr h0 S1235 (h, t) → J1234 S1235 = some R → zW (ia_P0 L xs fm) ia_nx (d + 5) 12 false cX12_readClause 8 (none) 186 [(0, .ref 41), (1, .int r2), (2, .int 1), (3, .int q1110), (4, .ref 51), (5, .ref 1000101)] [] (h, t) (zQv zDr h0 t R) := by
                intro S1235 h hE hf
                rw [eJ1234] at hf
                refine z_iload_n dX12_readClause_186 rfl ?_
                refine z_bipush (v := 104) dX12_readClause_187 (by decide) ?_
                obtain ⟨J1237, eJ1237, hf⟩ := zl_some hf
                have hJ1237 : ∀ (S1238 : zS) (h : Nat → va_E), zE zDr h0 S1238 (h, t) → J1237 S1238 = some R → zW (ia_P0 L xs fm) ia_nx (d + 5) 12 false cX12_readClause 8 (none) 202 [(0, .ref 41), (1, .int r2), (2, .int 1), (3, .int q1110), (4, .ref 51), (5, .ref 1000101)] [] (h, t) (zQv zDr h0 t R) := by
                  intro S1238 h hE hf
                  rw [eJ1237] at hf
                  refine z_iload_n dX12_readClause_202 rfl ?_
                  refine z_bipush (v := 116) dX12_readClause_203 (by decide) ?_
                  obtain ⟨J1240, eJ1240, hf⟩ := zl_some hf
                  have hJ1240 : ∀ (S1241 : zS) (h : Nat → va_E), zE zDr h0 S1241 (h, t) → J1240 S1241 = some R → zW (ia_P0 L xs fm) ia_nx (d + 5) 12 false cX12_readClause 8 (none) 218 [(0, .ref 41), (1, .int r2), (2, .int 1), (3, .int q1110), (4, .ref 51), (5, .ref 1000101)] [] (h, t) (zQv zDr h0 t R) := by
                    intro S1241 h hE hf
                    rw [eJ1240] at hf
                    refine z_iconst (v := 0) dX12_readClause_218 (by decide) ?_
                    refine z_istore (lv' := [(6, .int 0), (0, .ref 41), (1, .int r2), (2, .int 1), (3, .int q1110), (4, .ref 51), (5, .ref 1000101)]) dX12_readClause_219 (by decide) rfl ?_
                    refine zW.sub (w_X12_readClause_L221b hn1 hn2 d (fun q1253 S1252 h hE hf => ?_) zN 0 S1241 h hE hf) [1, 2, 3, 4, 5, 6, 0] rfl rfl rfl rfl
                    try dsimp only at hf
                    refine z_iconst (v := 0) dX12_readClause_250 (by decide) ?_
                    refine z_istore (lv' := [(6, .int 0), (0, .ref 41), (1, .int r2), (2, .int 1), (3, .int q1110), (4, .ref 51), (5, .ref 1000101)]) dX12_readClause_251 (by decide) rfl ?_
                    refine z_aload dX12_readClause_253 rfl ?_
                    refine z_aload_n dX12_readClause_255 rfl ?_
                    obtain ⟨r1255, S1254, k1256, hf⟩ := zb_some hf
                    refine z_callVi dX12_readClause_256 tM_12_135 mt_12011 (Nat.le_of_ble_eq_true rfl) rfl rfl (z_recv hE dr_41 rfl) rfl (ia_oks_le hn1 rfl) (Nat.le_of_ble_eq_true rfl) (w_X12_look hn1 hn2 (d + 4) hE k1256) (fun h hE => ?_)
                    obtain ⟨r1258, S1257, k1259, hf⟩ := zb_some hf
                    refine z_callSi dX12_readClause_259 tM_12_237 (by decide) mt_12014 (Nat.le_of_ble_eq_true rfl) rfl rfl (ia_oks_le hn1 rfl) (Nat.le_of_ble_eq_true rfl) (w_X12_placeOf_1000101 hn1 hn2 (d + 0) hE k1259) (fun h hE => ?_)
                    refine z_istore (lv' := [(7, .int r1258), (6, .int 0), (0, .ref 41), (1, .int r2), (2, .int 1), (3, .int q1110), (4, .ref 51), (5, .ref 1000101)]) dX12_readClause_262 (by decide) rfl ?_
                    refine zW.sub (w_X12_readClause_L264b hn1 hn2 d (fun q1287 q1288 S1286 h hE hf => ?_) zN 0 r1258 S1257 h hE hf) [2, 3, 4, 5, 6, 7, 1, 0] rfl rfl rfl rfl
                    try dsimp only at hf
                    have e_ := Option.some.inj hf
                    subst e_
                    exact z_vreturn dX12_readClause_347 rfl ⟨h, rfl, rfl, hE⟩
                  by_cases c1239 : ¬ r2 = 116
                  · have hf := zif_t hf c1239
                    refine z_icmp_ne_t (tgt := 218) dX12_readClause_205 (by decide) c1239 ?_
                    exact zW.sub (hJ1240 S1238 _ hE hf) [0, 1, 2, 3, 4, 5] rfl rfl rfl rfl
                  · have hf := zif_f hf c1239
                    refine z_icmp_ne_f (tgt := 218) dX12_readClause_205 (by decide) c1239 ?_
                    refine z_aload_n dX12_readClause_208 rfl ?_
                    refine z_dup dX12_readClause_209 rfl ?_
                    refine z_getI dX12_readClause_210 tF_12_224 hE dr_41 rfl rfl ?_
                    refine z_iconst (v := 1) dX12_readClause_213 (by decide) ?_
                    refine z_iadd dX12_readClause_214 ?_
                    obtain ⟨S1289, eS1289, hf⟩ := zl_some hf
                    refine z_putI dX12_readClause_215 tF_12_224 hE dr_41 rfl rfl rfl rfl (fun h hE => ?_)
                    rw [← eS1289] at hE
                    exact zW.sub (hJ1240 S1289 _ hE hf) [0, 1, 2, 3, 4, 5] rfl rfl rfl rfl
                by_cases c1236 : ¬ r2 = 104
                · have hf := zif_t hf c1236
                  refine z_icmp_ne_t (tgt := 202) dX12_readClause_189 (by decide) c1236 ?_
                  exact zW.sub (hJ1237 S1235 _ hE hf) [0, 1, 2, 3, 4, 5] rfl rfl rfl rfl
                · have hf := zif_f hf c1236
                  refine z_icmp_ne_f (tgt := 202) dX12_readClause_189 (by decide) c1236 ?_
                  refine z_aload_n dX12_readClause_192 rfl ?_
                  refine z_dup dX12_readClause_193 rfl ?_
                  refine z_getI dX12_readClause_194 tF_12_221 hE dr_41 rfl rfl ?_
                  refine z_iconst (v := 1) dX12_readClause_197 (by decide) ?_
                  refine z_iadd dX12_readClause_198 ?_
                  obtain ⟨S1290, eS1290, hf⟩ := zl_some hf
                  refine z_putI dX12_readClause_199 tF_12_221 hE dr_41 rfl rfl rfl rfl (fun h hE => ?_)
                  rw [← eS1290] at hE
                  exact zW.sub (hJ1237 S1290 _ hE hf) [0, 1, 2, 3, 4, 5] rfl rfl rfl rfl
              by_cases c1233 : ¬ r2 = 106
              · have hf := zif_t hf c1233
                refine z_icmp_ne_t (tgt := 186) dX12_readClause_173 (by decide) c1233 ?_
                exact zW.sub (hJ1234 S1107 _ hE hf) [3, 4, 5, 2, 1, 0] rfl rfl rfl rfl
              · have hf := zif_f hf c1233
                refine z_icmp_ne_f (tgt := 186) dX12_readClause_173 (by decide) c1233 ?_
                refine z_aload_n dX12_readClause_176 rfl ?_
                refine z_dup dX12_readClause_177 rfl ?_
                refine z_getI dX12_readClause_178 tF_12_218 hE dr_41 rfl rfl ?_
                refine z_iconst (v := 1) dX12_readClause_181 (by decide) ?_
                refine z_iadd dX12_readClause_182 ?_
                obtain ⟨S1291, eS1291, hf⟩ := zl_some hf
                refine z_putI dX12_readClause_183 tF_12_218 hE dr_41 rfl rfl rfl rfl (fun h hE => ?_)
                rw [← eS1291] at hE
                exact zW.sub (hJ1234 S1291 _ hE hf) [3, 4, 5, 2, 1, 0] rfl rfl rfl rfl
          · have hf := zif_f hf c1112
            refine z_icmp_ne_f (tgt := 138) dX12_readClause_128 (by decide) c1112 ?_
            refine z_aload_n dX12_readClause_131 rfl ?_
            refine z_getC dX12_readClause_132 tF_12_46 hE dr_41 rfl rfl ?_
            refine z_goto (tgt := 142) dX12_readClause_135 (by decide) ?_
            refine z_astore (lv' := [(4, .ref 49), (3, .int q1110), (0, .ref 41), (1, .int r2), (2, .int 1)]) dX12_readClause_142 (by decide) rfl ?_
            refine z_iload_n dX12_readClause_144 rfl ?_
            refine z_bipush (v := 106) dX12_readClause_145 (by decide) ?_
            by_cases c1292 : ¬ r2 = 106
            · have hf := zif_t hf c1292
              refine z_icmp_ne_t (tgt := 155) dX12_readClause_147 (by decide) c1292 ?_
              refine z_iload_n dX12_readClause_155 rfl ?_
              refine z_bipush (v := 104) dX12_readClause_156 (by decide) ?_
              by_cases c1293 : ¬ r2 = 104
              · have hf := zif_t hf c1293
                refine z_icmp_ne_t (tgt := 166) dX12_readClause_158 (by decide) c1293 ?_
                refine z_ldcS dX12_readClause_166 tK_12_231 ?_
                refine z_astore (lv' := [(5, .ref 1000103), (4, .ref 49), (3, .int q1110), (0, .ref 41), (1, .int r2), (2, .int 1)]) dX12_readClause_168 (by decide) rfl ?_
                refine z_iload_n dX12_readClause_170 rfl ?_
                refine z_bipush (v := 106) dX12_readClause_171 (by decide) ?_
                obtain ⟨J1295, eJ1295, hf⟩ := zl_some hf
                have hJ1295 : ∀ (S1296 : zS) (h : Nat → va_E), zE zDr h0 S1296 (h, t) → J1295 S1296 = some R → zW (ia_P0 L xs fm) ia_nx (d + 5) 12 false cX12_readClause 8 (none) 186 [(0, .ref 41), (1, .int r2), (2, .int 1), (3, .int q1110), (4, .ref 49), (5, .ref 1000103)] [] (h, t) (zQv zDr h0 t R) := by
                  intro S1296 h hE hf
                  rw [eJ1295] at hf
                  refine z_iload_n dX12_readClause_186 rfl ?_
                  refine z_bipush (v := 104) dX12_readClause_187 (by decide) ?_
                  obtain ⟨J1298, eJ1298, hf⟩ := zl_some hf
                  have hJ1298 : ∀ (S1299 : zS) (h : Nat → va_E), zE zDr h0 S1299 (h, t) → J1298 S1299 = some R → zW (ia_P0 L xs fm) ia_nx (d + 5) 12 false cX12_readClause 8 (none) 202 [(0, .ref 41), (1, .int r2), (2, .int 1), (3, .int q1110), (4, .ref 49), (5, .ref 1000103)] [] (h, t) (zQv zDr h0 t R) := by
                    intro S1299 h hE hf
                    rw [eJ1298] at hf
                    refine z_iload_n dX12_readClause_202 rfl ?_
                    refine z_bipush (v := 116) dX12_readClause_203 (by decide) ?_
                    obtain ⟨J1301, eJ1301, hf⟩ := zl_some hf
                    have hJ1301 : ∀ (S1302 : zS) (h : Nat → va_E), zE zDr h0 S1302 (h, t) → J1301 S1302 = some R → zW (ia_P0 L xs fm) ia_nx (d + 5) 12 false cX12_readClause 8 (none) 218 [(0, .ref 41), (1, .int r2), (2, .int 1), (3, .int q1110), (4, .ref 49), (5, .ref 1000103)] [] (h, t) (zQv zDr h0 t R) := by
                      intro S1302 h hE hf
                      rw [eJ1301] at hf
                      refine z_iconst (v := 0) dX12_readClause_218 (by decide) ?_
                      refine z_istore (lv' := [(6, .int 0), (0, .ref 41), (1, .int r2), (2, .int 1), (3, .int q1110), (4, .ref 49), (5, .ref 1000103)]) dX12_readClause_219 (by decide) rfl ?_
                      refine zW.sub (w_X12_readClause_L221c hn1 hn2 d (fun q1314 S1313 h hE hf => ?_) zN 0 S1302 h hE hf) [1, 2, 3, 4, 5, 6, 0] rfl rfl rfl rfl
                      try dsimp only at hf
                      refine z_iconst (v := 0) dX12_readClause_250 (by decide) ?_
                      refine z_istore (lv' := [(6, .int 0), (0, .ref 41), (1, .int r2), (2, .int 1), (3, .int q1110), (4, .ref 49), (5, .ref 1000103)]) dX12_readClause_251 (by decide) rfl ?_
                      refine z_aload dX12_readClause_253 rfl ?_
                      refine z_aload_n dX12_readClause_255 rfl ?_
                      obtain ⟨r1316, S1315, k1317, hf⟩ := zb_some hf
                      refine z_callVi dX12_readClause_256 tM_12_135 mt_12011 (Nat.le_of_ble_eq_true rfl) rfl rfl (z_recv hE dr_41 rfl) rfl (ia_oks_le hn1 rfl) (Nat.le_of_ble_eq_true rfl) (w_X12_look hn1 hn2 (d + 4) hE k1317) (fun h hE => ?_)
                      obtain ⟨r1319, S1318, k1320, hf⟩ := zb_some hf
                      refine z_callSi dX12_readClause_259 tM_12_237 (by decide) mt_12014 (Nat.le_of_ble_eq_true rfl) rfl rfl (ia_oks_le hn1 rfl) (Nat.le_of_ble_eq_true rfl) (w_X12_placeOf_1000103 hn1 hn2 (d + 0) hE k1320) (fun h hE => ?_)
                      refine z_istore (lv' := [(7, .int r1319), (6, .int 0), (0, .ref 41), (1, .int r2), (2, .int 1), (3, .int q1110), (4, .ref 49), (5, .ref 1000103)]) dX12_readClause_262 (by decide) rfl ?_
                      refine zW.sub (w_X12_readClause_L264c hn1 hn2 d (fun q1348 q1349 S1347 h hE hf => ?_) zN 0 r1319 S1318 h hE hf) [2, 3, 4, 5, 6, 7, 1, 0] rfl rfl rfl rfl
                      try dsimp only at hf
                      have e_ := Option.some.inj hf
                      subst e_
                      exact z_vreturn dX12_readClause_347 rfl ⟨h, rfl, rfl, hE⟩
                    by_cases c1300 : ¬ r2 = 116
                    · have hf := zif_t hf c1300
                      refine z_icmp_ne_t (tgt := 218) dX12_readClause_205 (by decide) c1300 ?_
                      exact zW.sub (hJ1301 S1299 _ hE hf) [0, 1, 2, 3, 4, 5] rfl rfl rfl rfl
                    · have hf := zif_f hf c1300
                      refine z_icmp_ne_f (tgt := 218) dX12_readClause_205 (by decide) c1300 ?_
                      refine z_aload_n dX12_readClause_208 rfl ?_
                      refine z_dup dX12_readClause_209 rfl ?_
                      refine z_getI dX12_readClause_210 tF_12_224 hE dr_41 rfl rfl ?_
                      refine z_iconst (v := 1) dX12_readClause_213 (by decide) ?_
                      refine z_iadd dX12_readClause_214 ?_
                      obtain ⟨S1350, eS1350, hf⟩ := zl_some hf
                      refine z_putI dX12_readClause_215 tF_12_224 hE dr_41 rfl rfl rfl rfl (fun h hE => ?_)
                      rw [← eS1350] at hE
                      exact zW.sub (hJ1301 S1350 _ hE hf) [0, 1, 2, 3, 4, 5] rfl rfl rfl rfl
                  by_cases c1297 : ¬ r2 = 104
                  · have hf := zif_t hf c1297
                    refine z_icmp_ne_t (tgt := 202) dX12_readClause_189 (by decide) c1297 ?_
                    exact zW.sub (hJ1298 S1296 _ hE hf) [0, 1, 2, 3, 4, 5] rfl rfl rfl rfl
                  · have hf := zif_f hf c1297
                    refine z_icmp_ne_f (tgt := 202) dX12_readClause_189 (by decide) c1297 ?_
                    refine z_aload_n dX12_readClause_192 rfl ?_
                    refine z_dup dX12_readClause_193 rfl ?_
                    refine z_getI dX12_readClause_194 tF_12_221 hE dr_41 rfl rfl ?_
                    refine z_iconst (v := 1) dX12_readClause_197 (by decide) ?_
                    refine z_iadd dX12_readClause_198 ?_
                    obtain ⟨S1351, eS1351, hf⟩ := zl_some hf
                    refine z_putI dX12_readClause_199 tF_12_221 hE dr_41 rfl rfl rfl rfl (fun h hE => ?_)
                    rw [← eS1351] at hE
                    exact zW.sub (hJ1298 S1351 _ hE hf) [0, 1, 2, 3, 4, 5] rfl rfl rfl rfl
                by_cases c1294 : ¬ r2 = 106
                · have hf := zif_t hf c1294
                  refine z_icmp_ne_t (tgt := 186) dX12_readClause_173 (by decide) c1294 ?_
                  exact zW.sub (hJ1295 S1107 _ hE hf) [3, 4, 5, 2, 1, 0] rfl rfl rfl rfl
                · have hf := zif_f hf c1294
                  refine z_icmp_ne_f (tgt := 186) dX12_readClause_173 (by decide) c1294 ?_
                  refine z_aload_n dX12_readClause_176 rfl ?_
                  refine z_dup dX12_readClause_177 rfl ?_
                  refine z_getI dX12_readClause_178 tF_12_218 hE dr_41 rfl rfl ?_
                  refine z_iconst (v := 1) dX12_readClause_181 (by decide) ?_
                  refine z_iadd dX12_readClause_182 ?_
                  obtain ⟨S1352, eS1352, hf⟩ := zl_some hf
                  refine z_putI dX12_readClause_183 tF_12_218 hE dr_41 rfl rfl rfl rfl (fun h hE => ?_)
                  rw [← eS1352] at hE
                  exact zW.sub (hJ1295 S1352 _ hE hf) [3, 4, 5, 2, 1, 0] rfl rfl rfl rfl
              · have hf := zif_f hf c1293
                refine z_icmp_ne_f (tgt := 166) dX12_readClause_158 (by decide) c1293 ?_
                refine z_ldcS dX12_readClause_161 tK_12_229 ?_
                refine z_goto (tgt := 168) dX12_readClause_163 (by decide) ?_
                refine z_astore (lv' := [(5, .ref 1000102), (4, .ref 49), (3, .int q1110), (0, .ref 41), (1, .int r2), (2, .int 1)]) dX12_readClause_168 (by decide) rfl ?_
                refine z_iload_n dX12_readClause_170 rfl ?_
                refine z_bipush (v := 106) dX12_readClause_171 (by decide) ?_
                obtain ⟨J1354, eJ1354, hf⟩ := zl_some hf
                have hJ1354 : ∀ (S1355 : zS) (h : Nat → va_E), zE zDr h0 S1355 (h, t) → J1354 S1355 = some R → zW (ia_P0 L xs fm) ia_nx (d + 5) 12 false cX12_readClause 8 (none) 186 [(0, .ref 41), (1, .int r2), (2, .int 1), (3, .int q1110), (4, .ref 49), (5, .ref 1000102)] [] (h, t) (zQv zDr h0 t R) := by
                  intro S1355 h hE hf
                  rw [eJ1354] at hf
                  refine z_iload_n dX12_readClause_186 rfl ?_
                  refine z_bipush (v := 104) dX12_readClause_187 (by decide) ?_
                  obtain ⟨J1357, eJ1357, hf⟩ := zl_some hf
                  have hJ1357 : ∀ (S1358 : zS) (h : Nat → va_E), zE zDr h0 S1358 (h, t) → J1357 S1358 = some R → zW (ia_P0 L xs fm) ia_nx (d + 5) 12 false cX12_readClause 8 (none) 202 [(0, .ref 41), (1, .int r2), (2, .int 1), (3, .int q1110), (4, .ref 49), (5, .ref 1000102)] [] (h, t) (zQv zDr h0 t R) := by
                    intro S1358 h hE hf
                    rw [eJ1357] at hf
                    refine z_iload_n dX12_readClause_202 rfl ?_
                    refine z_bipush (v := 116) dX12_readClause_203 (by decide) ?_
                    obtain ⟨J1360, eJ1360, hf⟩ := zl_some hf
                    have hJ1360 : ∀ (S1361 : zS) (h : Nat → va_E), zE zDr h0 S1361 (h, t) → J1360 S1361 = some R → zW (ia_P0 L xs fm) ia_nx (d + 5) 12 false cX12_readClause 8 (none) 218 [(0, .ref 41), (1, .int r2), (2, .int 1), (3, .int q1110), (4, .ref 49), (5, .ref 1000102)] [] (h, t) (zQv zDr h0 t R) := by
                      intro S1361 h hE hf
                      rw [eJ1360] at hf
                      refine z_iconst (v := 0) dX12_readClause_218 (by decide) ?_
                      refine z_istore (lv' := [(6, .int 0), (0, .ref 41), (1, .int r2), (2, .int 1), (3, .int q1110), (4, .ref 49), (5, .ref 1000102)]) dX12_readClause_219 (by decide) rfl ?_
                      refine zW.sub (w_X12_readClause_L221d hn1 hn2 d (fun q1373 S1372 h hE hf => ?_) zN 0 S1361 h hE hf) [1, 2, 3, 4, 5, 6, 0] rfl rfl rfl rfl
                      try dsimp only at hf
                      refine z_iconst (v := 0) dX12_readClause_250 (by decide) ?_
                      refine z_istore (lv' := [(6, .int 0), (0, .ref 41), (1, .int r2), (2, .int 1), (3, .int q1110), (4, .ref 49), (5, .ref 1000102)]) dX12_readClause_251 (by decide) rfl ?_
                      refine z_aload dX12_readClause_253 rfl ?_
                      refine z_aload_n dX12_readClause_255 rfl ?_
                      obtain ⟨r1375, S1374, k1376, hf⟩ := zb_some hf
                      refine z_callVi dX12_readClause_256 tM_12_135 mt_12011 (Nat.le_of_ble_eq_true rfl) rfl rfl (z_recv hE dr_41 rfl) rfl (ia_oks_le hn1 rfl) (Nat.le_of_ble_eq_true rfl) (w_X12_look hn1 hn2 (d + 4) hE k1376) (fun h hE => ?_)
                      obtain ⟨r1378, S1377, k1379, hf⟩ := zb_some hf
                      refine z_callSi dX12_readClause_259 tM_12_237 (by decide) mt_12014 (Nat.le_of_ble_eq_true rfl) rfl rfl (ia_oks_le hn1 rfl) (Nat.le_of_ble_eq_true rfl) (w_X12_placeOf_1000102 hn1 hn2 (d + 0) hE k1379) (fun h hE => ?_)
                      refine z_istore (lv' := [(7, .int r1378), (6, .int 0), (0, .ref 41), (1, .int r2), (2, .int 1), (3, .int q1110), (4, .ref 49), (5, .ref 1000102)]) dX12_readClause_262 (by decide) rfl ?_
                      refine zW.sub (w_X12_readClause_L264d hn1 hn2 d (fun q1407 q1408 S1406 h hE hf => ?_) zN 0 r1378 S1377 h hE hf) [2, 3, 4, 5, 6, 7, 1, 0] rfl rfl rfl rfl
                      try dsimp only at hf
                      have e_ := Option.some.inj hf
                      subst e_
                      exact z_vreturn dX12_readClause_347 rfl ⟨h, rfl, rfl, hE⟩
                    by_cases c1359 : ¬ r2 = 116
                    · have hf := zif_t hf c1359
                      refine z_icmp_ne_t (tgt := 218) dX12_readClause_205 (by decide) c1359 ?_
                      exact zW.sub (hJ1360 S1358 _ hE hf) [0, 1, 2, 3, 4, 5] rfl rfl rfl rfl
                    · have hf := zif_f hf c1359
                      refine z_icmp_ne_f (tgt := 218) dX12_readClause_205 (by decide) c1359 ?_
                      refine z_aload_n dX12_readClause_208 rfl ?_
                      refine z_dup dX12_readClause_209 rfl ?_
                      refine z_getI dX12_readClause_210 tF_12_224 hE dr_41 rfl rfl ?_
                      refine z_iconst (v := 1) dX12_readClause_213 (by decide) ?_
                      refine z_iadd dX12_readClause_214 ?_
                      obtain ⟨S1409, eS1409, hf⟩ := zl_some hf
                      refine z_putI dX12_readClause_215 tF_12_224 hE dr_41 rfl rfl rfl rfl (fun h hE => ?_)
                      rw [← eS1409] at hE
                      exact zW.sub (hJ1360 S1409 _ hE hf) [0, 1, 2, 3, 4, 5] rfl rfl rfl rfl
                  by_cases c1356 : ¬ r2 = 104
                  · have hf := zif_t hf c1356
                    refine z_icmp_ne_t (tgt := 202) dX12_readClause_189 (by decide) c1356 ?_
                    exact zW.sub (hJ1357 S1355 _ hE hf) [0, 1, 2, 3, 4, 5] rfl rfl rfl rfl
                  · have hf := zif_f hf c1356
                    refine z_icmp_ne_f (tgt := 202) dX12_readClause_189 (by decide) c1356 ?_
                    refine z_aload_n dX12_readClause_192 rfl ?_
                    refine z_dup dX12_readClause_193 rfl ?_
                    refine z_getI dX12_readClause_194 tF_12_221 hE dr_41 rfl rfl ?_
                    refine z_iconst (v := 1) dX12_readClause_197 (by decide) ?_
                    refine z_iadd dX12_readClause_198 ?_
                    obtain ⟨S1410, eS1410, hf⟩ := zl_some hf
                    refine z_putI dX12_readClause_199 tF_12_221 hE dr_41 rfl rfl rfl rfl (fun h hE => ?_)
                    rw [← eS1410] at hE
                    exact zW.sub (hJ1357 S1410 _ hE hf) [0, 1, 2, 3, 4, 5] rfl rfl rfl rfl
                by_cases c1353 : ¬ r2 = 106
                · have hf := zif_t hf c1353
                  refine z_icmp_ne_t (tgt := 186) dX12_readClause_173 (by decide) c1353 ?_
                  exact zW.sub (hJ1354 S1107 _ hE hf) [3, 4, 5, 2, 1, 0] rfl rfl rfl rfl
                · have hf := zif_f hf c1353
                  refine z_icmp_ne_f (tgt := 186) dX12_readClause_173 (by decide) c1353 ?_
                  refine z_aload_n dX12_readClause_176 rfl ?_
                  refine z_dup dX12_readClause_177 rfl ?_
                  refine z_getI dX12_readClause_178 tF_12_218 hE dr_41 rfl rfl ?_
                  refine z_iconst (v := 1) dX12_readClause_181 (by decide) ?_
                  refine z_iadd dX12_readClause_182 ?_
                  obtain ⟨S1411, eS1411, hf⟩ := zl_some hf
                  refine z_putI dX12_readClause_183 tF_12_218 hE dr_41 rfl rfl rfl rfl (fun h hE => ?_)
                  rw [← eS1411] at hE
                  exact zW.sub (hJ1354 S1411 _ hE hf) [3, 4, 5, 2, 1, 0] rfl rfl rfl rfl
            · have hf := zif_f hf c1292
              refine z_icmp_ne_f (tgt := 155) dX12_readClause_147 (by decide) c1292 ?_
              refine z_ldcS dX12_readClause_150 tK_12_227 ?_
              refine z_goto (tgt := 168) dX12_readClause_152 (by decide) ?_
              refine z_astore (lv' := [(5, .ref 1000101), (4, .ref 49), (3, .int q1110), (0, .ref 41), (1, .int r2), (2, .int 1)]) dX12_readClause_168 (by decide) rfl ?_
              refine z_iload_n dX12_readClause_170 rfl ?_
              refine z_bipush (v := 106) dX12_readClause_171 (by decide) ?_
              obtain ⟨J1413, eJ1413, hf⟩ := zl_some hf
              have hJ1413 : ∀ (S1414 : zS) (h : Nat → va_E), zE zDr h0 S1414 (h, t) → J1413 S1414 = some R → zW (ia_P0 L xs fm) ia_nx (d + 5) 12 false cX12_readClause 8 (none) 186 [(0, .ref 41), (1, .int r2), (2, .int 1), (3, .int q1110), (4, .ref 49), (5, .ref 1000101)] [] (h, t) (zQv zDr h0 t R) := by
                intro S1414 h hE hf
                rw [eJ1413] at hf
                refine z_iload_n dX12_readClause_186 rfl ?_
                refine z_bipush (v := 104) dX12_readClause_187 (by decide) ?_
                obtain ⟨J1416, eJ1416, hf⟩ := zl_some hf
                have hJ1416 : ∀ (S1417 : zS) (h : Nat → va_E), zE zDr h0 S1417 (h, t) → J1416 S1417 = some R → zW (ia_P0 L xs fm) ia_nx (d + 5) 12 false cX12_readClause 8 (none) 202 [(0, .ref 41), (1, .int r2), (2, .int 1), (3, .int q1110), (4, .ref 49), (5, .ref 1000101)] [] (h, t) (zQv zDr h0 t R) := by
                  intro S1417 h hE hf
                  rw [eJ1416] at hf
                  refine z_iload_n dX12_readClause_202 rfl ?_
                  refine z_bipush (v := 116) dX12_readClause_203 (by decide) ?_
                  obtain ⟨J1419, eJ1419, hf⟩ := zl_some hf
                  have hJ1419 : ∀ (S1420 : zS) (h : Nat → va_E), zE zDr h0 S1420 (h, t) → J1419 S1420 = some R → zW (ia_P0 L xs fm) ia_nx (d + 5) 12 false cX12_readClause 8 (none) 218 [(0, .ref 41), (1, .int r2), (2, .int 1), (3, .int q1110), (4, .ref 49), (5, .ref 1000101)] [] (h, t) (zQv zDr h0 t R) := by
                    intro S1420 h hE hf
                    rw [eJ1419] at hf
                    refine z_iconst (v := 0) dX12_readClause_218 (by decide) ?_
                    refine z_istore (lv' := [(6, .int 0), (0, .ref 41), (1, .int r2), (2, .int 1), (3, .int q1110), (4, .ref 49), (5, .ref 1000101)]) dX12_readClause_219 (by decide) rfl ?_
                    refine zW.sub (w_X12_readClause_L221e hn1 hn2 d (fun q1432 S1431 h hE hf => ?_) zN 0 S1420 h hE hf) [1, 2, 3, 4, 5, 6, 0] rfl rfl rfl rfl
                    try dsimp only at hf
                    refine z_iconst (v := 0) dX12_readClause_250 (by decide) ?_
                    refine z_istore (lv' := [(6, .int 0), (0, .ref 41), (1, .int r2), (2, .int 1), (3, .int q1110), (4, .ref 49), (5, .ref 1000101)]) dX12_readClause_251 (by decide) rfl ?_
                    refine z_aload dX12_readClause_253 rfl ?_
                    refine z_aload_n dX12_readClause_255 rfl ?_
                    obtain ⟨r1434, S1433, k1435, hf⟩ := zb_some hf
                    refine z_callVi dX12_readClause_256 tM_12_135 mt_12011 (Nat.le_of_ble_eq_true rfl) rfl rfl (z_recv hE dr_41 rfl) rfl (ia_oks_le hn1 rfl) (Nat.le_of_ble_eq_true rfl) (w_X12_look hn1 hn2 (d + 4) hE k1435) (fun h hE => ?_)
                    obtain ⟨r1437, S1436, k1438, hf⟩ := zb_some hf
                    refine z_callSi dX12_readClause_259 tM_12_237 (by decide) mt_12014 (Nat.le_of_ble_eq_true rfl) rfl rfl (ia_oks_le hn1 rfl) (Nat.le_of_ble_eq_true rfl) (w_X12_placeOf_1000101 hn1 hn2 (d + 0) hE k1438) (fun h hE => ?_)
                    refine z_istore (lv' := [(7, .int r1437), (6, .int 0), (0, .ref 41), (1, .int r2), (2, .int 1), (3, .int q1110), (4, .ref 49), (5, .ref 1000101)]) dX12_readClause_262 (by decide) rfl ?_
                    refine zW.sub (w_X12_readClause_L264e hn1 hn2 d (fun q1466 q1467 S1465 h hE hf => ?_) zN 0 r1437 S1436 h hE hf) [2, 3, 4, 5, 6, 7, 1, 0] rfl rfl rfl rfl
                    try dsimp only at hf
                    have e_ := Option.some.inj hf
                    subst e_
                    exact z_vreturn dX12_readClause_347 rfl ⟨h, rfl, rfl, hE⟩
                  by_cases c1418 : ¬ r2 = 116
                  · have hf := zif_t hf c1418
                    refine z_icmp_ne_t (tgt := 218) dX12_readClause_205 (by decide) c1418 ?_
                    exact zW.sub (hJ1419 S1417 _ hE hf) [0, 1, 2, 3, 4, 5] rfl rfl rfl rfl
                  · have hf := zif_f hf c1418
                    refine z_icmp_ne_f (tgt := 218) dX12_readClause_205 (by decide) c1418 ?_
                    refine z_aload_n dX12_readClause_208 rfl ?_
                    refine z_dup dX12_readClause_209 rfl ?_
                    refine z_getI dX12_readClause_210 tF_12_224 hE dr_41 rfl rfl ?_
                    refine z_iconst (v := 1) dX12_readClause_213 (by decide) ?_
                    refine z_iadd dX12_readClause_214 ?_
                    obtain ⟨S1468, eS1468, hf⟩ := zl_some hf
                    refine z_putI dX12_readClause_215 tF_12_224 hE dr_41 rfl rfl rfl rfl (fun h hE => ?_)
                    rw [← eS1468] at hE
                    exact zW.sub (hJ1419 S1468 _ hE hf) [0, 1, 2, 3, 4, 5] rfl rfl rfl rfl
                by_cases c1415 : ¬ r2 = 104
                · have hf := zif_t hf c1415
                  refine z_icmp_ne_t (tgt := 202) dX12_readClause_189 (by decide) c1415 ?_
                  exact zW.sub (hJ1416 S1414 _ hE hf) [0, 1, 2, 3, 4, 5] rfl rfl rfl rfl
                · have hf := zif_f hf c1415
                  refine z_icmp_ne_f (tgt := 202) dX12_readClause_189 (by decide) c1415 ?_
                  refine z_aload_n dX12_readClause_192 rfl ?_
                  refine z_dup dX12_readClause_193 rfl ?_
                  refine z_getI dX12_readClause_194 tF_12_221 hE dr_41 rfl rfl ?_
                  refine z_iconst (v := 1) dX12_readClause_197 (by decide) ?_
                  refine z_iadd dX12_readClause_198 ?_
                  obtain ⟨S1469, eS1469, hf⟩ := zl_some hf
                  refine z_putI dX12_readClause_199 tF_12_221 hE dr_41 rfl rfl rfl rfl (fun h hE => ?_)
                  rw [← eS1469] at hE
                  exact zW.sub (hJ1416 S1469 _ hE hf) [0, 1, 2, 3, 4, 5] rfl rfl rfl rfl
              by_cases c1412 : ¬ r2 = 106
              · have hf := zif_t hf c1412
                refine z_icmp_ne_t (tgt := 186) dX12_readClause_173 (by decide) c1412 ?_
                exact zW.sub (hJ1413 S1107 _ hE hf) [3, 4, 5, 2, 1, 0] rfl rfl rfl rfl
              · have hf := zif_f hf c1412
                refine z_icmp_ne_f (tgt := 186) dX12_readClause_173 (by decide) c1412 ?_
                refine z_aload_n dX12_readClause_176 rfl ?_
                refine z_dup dX12_readClause_177 rfl ?_
                refine z_getI dX12_readClause_178 tF_12_218 hE dr_41 rfl rfl ?_
                refine z_iconst (v := 1) dX12_readClause_181 (by decide) ?_
                refine z_iadd dX12_readClause_182 ?_
                obtain ⟨S1470, eS1470, hf⟩ := zl_some hf
                refine z_putI dX12_readClause_183 tF_12_218 hE dr_41 rfl rfl rfl rfl (fun h hE => ?_)
                rw [← eS1470] at hE
                exact zW.sub (hJ1413 S1470 _ hE hf) [3, 4, 5, 2, 1, 0] rfl rfl rfl rfl
        · have hf := zif_f hf c1111
          refine z_icmp_ne_f (tgt := 125) dX12_readClause_115 (by decide) c1111 ?_
          refine z_aload_n dX12_readClause_118 rfl ?_
          refine z_getC dX12_readClause_119 tF_12_40 hE dr_41 rfl rfl ?_
          refine z_goto (tgt := 142) dX12_readClause_122 (by decide) ?_
          refine z_astore (lv' := [(4, .ref 47), (3, .int q1110), (0, .ref 41), (1, .int r2), (2, .int 1)]) dX12_readClause_142 (by decide) rfl ?_
          refine z_iload_n dX12_readClause_144 rfl ?_
          refine z_bipush (v := 106) dX12_readClause_145 (by decide) ?_
          by_cases c1471 : ¬ r2 = 106
          · have hf := zif_t hf c1471
            refine z_icmp_ne_t (tgt := 155) dX12_readClause_147 (by decide) c1471 ?_
            refine z_iload_n dX12_readClause_155 rfl ?_
            refine z_bipush (v := 104) dX12_readClause_156 (by decide) ?_
            by_cases c1472 : ¬ r2 = 104
            · have hf := zif_t hf c1472
              refine z_icmp_ne_t (tgt := 166) dX12_readClause_158 (by decide) c1472 ?_
              refine z_ldcS dX12_readClause_166 tK_12_231 ?_
              refine z_astore (lv' := [(5, .ref 1000103), (4, .ref 47), (3, .int q1110), (0, .ref 41), (1, .int r2), (2, .int 1)]) dX12_readClause_168 (by decide) rfl ?_
              refine z_iload_n dX12_readClause_170 rfl ?_
              refine z_bipush (v := 106) dX12_readClause_171 (by decide) ?_
              obtain ⟨J1474, eJ1474, hf⟩ := zl_some hf
              have hJ1474 : ∀ (S1475 : zS) (h : Nat → va_E), zE zDr h0 S1475 (h, t) → J1474 S1475 = some R → zW (ia_P0 L xs fm) ia_nx (d + 5) 12 false cX12_readClause 8 (none) 186 [(0, .ref 41), (1, .int r2), (2, .int 1), (3, .int q1110), (4, .ref 47), (5, .ref 1000103)] [] (h, t) (zQv zDr h0 t R) := by
                intro S1475 h hE hf
                rw [eJ1474] at hf
                refine z_iload_n dX12_readClause_186 rfl ?_
                refine z_bipush (v := 104) dX12_readClause_187 (by decide) ?_
                obtain ⟨J1477, eJ1477, hf⟩ := zl_some hf
                have hJ1477 : ∀ (S1478 : zS) (h : Nat → va_E), zE zDr h0 S1478 (h, t) → J1477 S1478 = some R → zW (ia_P0 L xs fm) ia_nx (d + 5) 12 false cX12_readClause 8 (none) 202 [(0, .ref 41), (1, .int r2), (2, .int 1), (3, .int q1110), (4, .ref 47), (5, .ref 1000103)] [] (h, t) (zQv zDr h0 t R) := by
                  intro S1478 h hE hf
                  rw [eJ1477] at hf
                  refine z_iload_n dX12_readClause_202 rfl ?_
                  refine z_bipush (v := 116) dX12_readClause_203 (by decide) ?_
                  obtain ⟨J1480, eJ1480, hf⟩ := zl_some hf
                  have hJ1480 : ∀ (S1481 : zS) (h : Nat → va_E), zE zDr h0 S1481 (h, t) → J1480 S1481 = some R → zW (ia_P0 L xs fm) ia_nx (d + 5) 12 false cX12_readClause 8 (none) 218 [(0, .ref 41), (1, .int r2), (2, .int 1), (3, .int q1110), (4, .ref 47), (5, .ref 1000103)] [] (h, t) (zQv zDr h0 t R) := by
                    intro S1481 h hE hf
                    rw [eJ1480] at hf
                    refine z_iconst (v := 0) dX12_readClause_218 (by decide) ?_
                    refine z_istore (lv' := [(6, .int 0), (0, .ref 41), (1, .int r2), (2, .int 1), (3, .int q1110), (4, .ref 47), (5, .ref 1000103)]) dX12_readClause_219 (by decide) rfl ?_
                    refine zW.sub (w_X12_readClause_L221f hn1 hn2 d (fun q1493 S1492 h hE hf => ?_) zN 0 S1481 h hE hf) [1, 2, 3, 4, 5, 6, 0] rfl rfl rfl rfl
                    try dsimp only at hf
                    refine z_iconst (v := 0) dX12_readClause_250 (by decide) ?_
                    refine z_istore (lv' := [(6, .int 0), (0, .ref 41), (1, .int r2), (2, .int 1), (3, .int q1110), (4, .ref 47), (5, .ref 1000103)]) dX12_readClause_251 (by decide) rfl ?_
                    refine z_aload dX12_readClause_253 rfl ?_
                    refine z_aload_n dX12_readClause_255 rfl ?_
                    obtain ⟨r1495, S1494, k1496, hf⟩ := zb_some hf
                    refine z_callVi dX12_readClause_256 tM_12_135 mt_12011 (Nat.le_of_ble_eq_true rfl) rfl rfl (z_recv hE dr_41 rfl) rfl (ia_oks_le hn1 rfl) (Nat.le_of_ble_eq_true rfl) (w_X12_look hn1 hn2 (d + 4) hE k1496) (fun h hE => ?_)
                    obtain ⟨r1498, S1497, k1499, hf⟩ := zb_some hf
                    refine z_callSi dX12_readClause_259 tM_12_237 (by decide) mt_12014 (Nat.le_of_ble_eq_true rfl) rfl rfl (ia_oks_le hn1 rfl) (Nat.le_of_ble_eq_true rfl) (w_X12_placeOf_1000103 hn1 hn2 (d + 0) hE k1499) (fun h hE => ?_)
                    refine z_istore (lv' := [(7, .int r1498), (6, .int 0), (0, .ref 41), (1, .int r2), (2, .int 1), (3, .int q1110), (4, .ref 47), (5, .ref 1000103)]) dX12_readClause_262 (by decide) rfl ?_
                    refine zW.sub (w_X12_readClause_L264f hn1 hn2 d (fun q1527 q1528 S1526 h hE hf => ?_) zN 0 r1498 S1497 h hE hf) [2, 3, 4, 5, 6, 7, 1, 0] rfl rfl rfl rfl
                    try dsimp only at hf
                    have e_ := Option.some.inj hf
                    subst e_
                    exact z_vreturn dX12_readClause_347 rfl ⟨h, rfl, rfl, hE⟩
                  by_cases c1479 : ¬ r2 = 116
                  · have hf := zif_t hf c1479
                    refine z_icmp_ne_t (tgt := 218) dX12_readClause_205 (by decide) c1479 ?_
                    exact zW.sub (hJ1480 S1478 _ hE hf) [0, 1, 2, 3, 4, 5] rfl rfl rfl rfl
                  · have hf := zif_f hf c1479
                    refine z_icmp_ne_f (tgt := 218) dX12_readClause_205 (by decide) c1479 ?_
                    refine z_aload_n dX12_readClause_208 rfl ?_
                    refine z_dup dX12_readClause_209 rfl ?_
                    refine z_getI dX12_readClause_210 tF_12_224 hE dr_41 rfl rfl ?_
                    refine z_iconst (v := 1) dX12_readClause_213 (by decide) ?_
                    refine z_iadd dX12_readClause_214 ?_
                    obtain ⟨S1529, eS1529, hf⟩ := zl_some hf
                    refine z_putI dX12_readClause_215 tF_12_224 hE dr_41 rfl rfl rfl rfl (fun h hE => ?_)
                    rw [← eS1529] at hE
                    exact zW.sub (hJ1480 S1529 _ hE hf) [0, 1, 2, 3, 4, 5] rfl rfl rfl rfl
                by_cases c1476 : ¬ r2 = 104
                · have hf := zif_t hf c1476
                  refine z_icmp_ne_t (tgt := 202) dX12_readClause_189 (by decide) c1476 ?_
                  exact zW.sub (hJ1477 S1475 _ hE hf) [0, 1, 2, 3, 4, 5] rfl rfl rfl rfl
                · have hf := zif_f hf c1476
                  refine z_icmp_ne_f (tgt := 202) dX12_readClause_189 (by decide) c1476 ?_
                  refine z_aload_n dX12_readClause_192 rfl ?_
                  refine z_dup dX12_readClause_193 rfl ?_
                  refine z_getI dX12_readClause_194 tF_12_221 hE dr_41 rfl rfl ?_
                  refine z_iconst (v := 1) dX12_readClause_197 (by decide) ?_
                  refine z_iadd dX12_readClause_198 ?_
                  obtain ⟨S1530, eS1530, hf⟩ := zl_some hf
                  refine z_putI dX12_readClause_199 tF_12_221 hE dr_41 rfl rfl rfl rfl (fun h hE => ?_)
                  rw [← eS1530] at hE
                  exact zW.sub (hJ1477 S1530 _ hE hf) [0, 1, 2, 3, 4, 5] rfl rfl rfl rfl
              by_cases c1473 : ¬ r2 = 106
              · have hf := zif_t hf c1473
                refine z_icmp_ne_t (tgt := 186) dX12_readClause_173 (by decide) c1473 ?_
                exact zW.sub (hJ1474 S1107 _ hE hf) [3, 4, 5, 2, 1, 0] rfl rfl rfl rfl
              · have hf := zif_f hf c1473
                refine z_icmp_ne_f (tgt := 186) dX12_readClause_173 (by decide) c1473 ?_
                refine z_aload_n dX12_readClause_176 rfl ?_
                refine z_dup dX12_readClause_177 rfl ?_
                refine z_getI dX12_readClause_178 tF_12_218 hE dr_41 rfl rfl ?_
                refine z_iconst (v := 1) dX12_readClause_181 (by decide) ?_
                refine z_iadd dX12_readClause_182 ?_
                obtain ⟨S1531, eS1531, hf⟩ := zl_some hf
                refine z_putI dX12_readClause_183 tF_12_218 hE dr_41 rfl rfl rfl rfl (fun h hE => ?_)
                rw [← eS1531] at hE
                exact zW.sub (hJ1474 S1531 _ hE hf) [3, 4, 5, 2, 1, 0] rfl rfl rfl rfl
            · have hf := zif_f hf c1472
              refine z_icmp_ne_f (tgt := 166) dX12_readClause_158 (by decide) c1472 ?_
              refine z_ldcS dX12_readClause_161 tK_12_229 ?_
              refine z_goto (tgt := 168) dX12_readClause_163 (by decide) ?_
              refine z_astore (lv' := [(5, .ref 1000102), (4, .ref 47), (3, .int q1110), (0, .ref 41), (1, .int r2), (2, .int 1)]) dX12_readClause_168 (by decide) rfl ?_
              refine z_iload_n dX12_readClause_170 rfl ?_
              refine z_bipush (v := 106) dX12_readClause_171 (by decide) ?_
              obtain ⟨J1533, eJ1533, hf⟩ := zl_some hf
              have hJ1533 : ∀ (S1534 : zS) (h : Nat → va_E), zE zDr h0 S1534 (h, t) → J1533 S1534 = some R → zW (ia_P0 L xs fm) ia_nx (d + 5) 12 false cX12_readClause 8 (none) 186 [(0, .ref 41), (1, .int r2), (2, .int 1), (3, .int q1110), (4, .ref 47), (5, .ref 1000102)] [] (h, t) (zQv zDr h0 t R) := by
                intro S1534 h hE hf
                rw [eJ1533] at hf
                refine z_iload_n dX12_readClause_186 rfl ?_
                refine z_bipush (v := 104) dX12_readClause_187 (by decide) ?_
                obtain ⟨J1536, eJ1536, hf⟩ := zl_some hf
                have hJ1536 : ∀ (S1537 : zS) (h : Nat → va_E), zE zDr h0 S1537 (h, t) → J1536 S1537 = some R → zW (ia_P0 L xs fm) ia_nx (d + 5) 12 false cX12_readClause 8 (none) 202 [(0, .ref 41), (1, .int r2), (2, .int 1), (3, .int q1110), (4, .ref 47), (5, .ref 1000102)] [] (h, t) (zQv zDr h0 t R) := by
                  intro S1537 h hE hf
                  rw [eJ1536] at hf
                  refine z_iload_n dX12_readClause_202 rfl ?_
                  refine z_bipush (v := 116) dX12_readClause_203 (by decide) ?_
                  obtain ⟨J1539, eJ1539, hf⟩ := zl_some hf
                  have hJ1539 : ∀ (S1540 : zS) (h : Nat → va_E), zE zDr h0 S1540 (h, t) → J1539 S1540 = some R → zW (ia_P0 L xs fm) ia_nx (d + 5) 12 false cX12_readClause 8 (none) 218 [(0, .ref 41), (1, .int r2), (2, .int 1), (3, .int q1110), (4, .ref 47), (5, .ref 1000102)] [] (h, t) (zQv zDr h0 t R) := by
                    intro S1540 h hE hf
                    rw [eJ1539] at hf
                    refine z_iconst (v := 0) dX12_readClause_218 (by decide) ?_
                    refine z_istore (lv' := [(6, .int 0), (0, .ref 41), (1, .int r2), (2, .int 1), (3, .int q1110), (4, .ref 47), (5, .ref 1000102)]) dX12_readClause_219 (by decide) rfl ?_
                    refine zW.sub (w_X12_readClause_L221g hn1 hn2 d (fun q1552 S1551 h hE hf => ?_) zN 0 S1540 h hE hf) [1, 2, 3, 4, 5, 6, 0] rfl rfl rfl rfl
                    try dsimp only at hf
                    refine z_iconst (v := 0) dX12_readClause_250 (by decide) ?_
                    refine z_istore (lv' := [(6, .int 0), (0, .ref 41), (1, .int r2), (2, .int 1), (3, .int q1110), (4, .ref 47), (5, .ref 1000102)]) dX12_readClause_251 (by decide) rfl ?_
                    refine z_aload dX12_readClause_253 rfl ?_
                    refine z_aload_n dX12_readClause_255 rfl ?_
                    obtain ⟨r1554, S1553, k1555, hf⟩ := zb_some hf
                    refine z_callVi dX12_readClause_256 tM_12_135 mt_12011 (Nat.le_of_ble_eq_true rfl) rfl rfl (z_recv hE dr_41 rfl) rfl (ia_oks_le hn1 rfl) (Nat.le_of_ble_eq_true rfl) (w_X12_look hn1 hn2 (d + 4) hE k1555) (fun h hE => ?_)
                    obtain ⟨r1557, S1556, k1558, hf⟩ := zb_some hf
                    refine z_callSi dX12_readClause_259 tM_12_237 (by decide) mt_12014 (Nat.le_of_ble_eq_true rfl) rfl rfl (ia_oks_le hn1 rfl) (Nat.le_of_ble_eq_true rfl) (w_X12_placeOf_1000102 hn1 hn2 (d + 0) hE k1558) (fun h hE => ?_)
                    refine z_istore (lv' := [(7, .int r1557), (6, .int 0), (0, .ref 41), (1, .int r2), (2, .int 1), (3, .int q1110), (4, .ref 47), (5, .ref 1000102)]) dX12_readClause_262 (by decide) rfl ?_
                    refine zW.sub (w_X12_readClause_L264g hn1 hn2 d (fun q1586 q1587 S1585 h hE hf => ?_) zN 0 r1557 S1556 h hE hf) [2, 3, 4, 5, 6, 7, 1, 0] rfl rfl rfl rfl
                    try dsimp only at hf
                    have e_ := Option.some.inj hf
                    subst e_
                    exact z_vreturn dX12_readClause_347 rfl ⟨h, rfl, rfl, hE⟩
                  by_cases c1538 : ¬ r2 = 116
                  · have hf := zif_t hf c1538
                    refine z_icmp_ne_t (tgt := 218) dX12_readClause_205 (by decide) c1538 ?_
                    exact zW.sub (hJ1539 S1537 _ hE hf) [0, 1, 2, 3, 4, 5] rfl rfl rfl rfl
                  · have hf := zif_f hf c1538
                    refine z_icmp_ne_f (tgt := 218) dX12_readClause_205 (by decide) c1538 ?_
                    refine z_aload_n dX12_readClause_208 rfl ?_
                    refine z_dup dX12_readClause_209 rfl ?_
                    refine z_getI dX12_readClause_210 tF_12_224 hE dr_41 rfl rfl ?_
                    refine z_iconst (v := 1) dX12_readClause_213 (by decide) ?_
                    refine z_iadd dX12_readClause_214 ?_
                    obtain ⟨S1588, eS1588, hf⟩ := zl_some hf
                    refine z_putI dX12_readClause_215 tF_12_224 hE dr_41 rfl rfl rfl rfl (fun h hE => ?_)
                    rw [← eS1588] at hE
                    exact zW.sub (hJ1539 S1588 _ hE hf) [0, 1, 2, 3, 4, 5] rfl rfl rfl rfl
                by_cases c1535 : ¬ r2 = 104
                · have hf := zif_t hf c1535
                  refine z_icmp_ne_t (tgt := 202) dX12_readClause_189 (by decide) c1535 ?_
                  exact zW.sub (hJ1536 S1534 _ hE hf) [0, 1, 2, 3, 4, 5] rfl rfl rfl rfl
                · have hf := zif_f hf c1535
                  refine z_icmp_ne_f (tgt := 202) dX12_readClause_189 (by decide) c1535 ?_
                  refine z_aload_n dX12_readClause_192 rfl ?_
                  refine z_dup dX12_readClause_193 rfl ?_
                  refine z_getI dX12_readClause_194 tF_12_221 hE dr_41 rfl rfl ?_
                  refine z_iconst (v := 1) dX12_readClause_197 (by decide) ?_
                  refine z_iadd dX12_readClause_198 ?_
                  obtain ⟨S1589, eS1589, hf⟩ := zl_some hf
                  refine z_putI dX12_readClause_199 tF_12_221 hE dr_41 rfl rfl rfl rfl (fun h hE => ?_)
                  rw [← eS1589] at hE
                  exact zW.sub (hJ1536 S1589 _ hE hf) [0, 1, 2, 3, 4, 5] rfl rfl rfl rfl
              by_cases c1532 : ¬ r2 = 106
              · have hf := zif_t hf c1532
                refine z_icmp_ne_t (tgt := 186) dX12_readClause_173 (by decide) c1532 ?_
                exact zW.sub (hJ1533 S1107 _ hE hf) [3, 4, 5, 2, 1, 0] rfl rfl rfl rfl
              · have hf := zif_f hf c1532
                refine z_icmp_ne_f (tgt := 186) dX12_readClause_173 (by decide) c1532 ?_
                refine z_aload_n dX12_readClause_176 rfl ?_
                refine z_dup dX12_readClause_177 rfl ?_
                refine z_getI dX12_readClause_178 tF_12_218 hE dr_41 rfl rfl ?_
                refine z_iconst (v := 1) dX12_readClause_181 (by decide) ?_
                refine z_iadd dX12_readClause_182 ?_
                obtain ⟨S1590, eS1590, hf⟩ := zl_some hf
                refine z_putI dX12_readClause_183 tF_12_218 hE dr_41 rfl rfl rfl rfl (fun h hE => ?_)
                rw [← eS1590] at hE
                exact zW.sub (hJ1533 S1590 _ hE hf) [3, 4, 5, 2, 1, 0] rfl rfl rfl rfl
          · have hf := zif_f hf c1471
            refine z_icmp_ne_f (tgt := 155) dX12_readClause_147 (by decide) c1471 ?_
            refine z_ldcS dX12_readClause_150 tK_12_227 ?_
            refine z_goto (tgt := 168) dX12_readClause_152 (by decide) ?_
            refine z_astore (lv' := [(5, .ref 1000101), (4, .ref 47), (3, .int q1110), (0, .ref 41), (1, .int r2), (2, .int 1)]) dX12_readClause_168 (by decide) rfl ?_
            refine z_iload_n dX12_readClause_170 rfl ?_
            refine z_bipush (v := 106) dX12_readClause_171 (by decide) ?_
            obtain ⟨J1592, eJ1592, hf⟩ := zl_some hf
            have hJ1592 : ∀ (S1593 : zS) (h : Nat → va_E), zE zDr h0 S1593 (h, t) → J1592 S1593 = some R → zW (ia_P0 L xs fm) ia_nx (d + 5) 12 false cX12_readClause 8 (none) 186 [(0, .ref 41), (1, .int r2), (2, .int 1), (3, .int q1110), (4, .ref 47), (5, .ref 1000101)] [] (h, t) (zQv zDr h0 t R) := by
              intro S1593 h hE hf
              rw [eJ1592] at hf
              refine z_iload_n dX12_readClause_186 rfl ?_
              refine z_bipush (v := 104) dX12_readClause_187 (by decide) ?_
              obtain ⟨J1595, eJ1595, hf⟩ := zl_some hf
              have hJ1595 : ∀ (S1596 : zS) (h : Nat → va_E), zE zDr h0 S1596 (h, t) → J1595 S1596 = some R → zW (ia_P0 L xs fm) ia_nx (d + 5) 12 false cX12_readClause 8 (none) 202 [(0, .ref 41), (1, .int r2), (2, .int 1), (3, .int q1110), (4, .ref 47), (5, .ref 1000101)] [] (h, t) (zQv zDr h0 t R) := by
                intro S1596 h hE hf
                rw [eJ1595] at hf
                refine z_iload_n dX12_readClause_202 rfl ?_
                refine z_bipush (v := 116) dX12_readClause_203 (by decide) ?_
                obtain ⟨J1598, eJ1598, hf⟩ := zl_some hf
                have hJ1598 : ∀ (S1599 : zS) (h : Nat → va_E), zE zDr h0 S1599 (h, t) → J1598 S1599 = some R → zW (ia_P0 L xs fm) ia_nx (d + 5) 12 false cX12_readClause 8 (none) 218 [(0, .ref 41), (1, .int r2), (2, .int 1), (3, .int q1110), (4, .ref 47), (5, .ref 1000101)] [] (h, t) (zQv zDr h0 t R) := by
                  intro S1599 h hE hf
                  rw [eJ1598] at hf
                  refine z_iconst (v := 0) dX12_readClause_218 (by decide) ?_
                  refine z_istore (lv' := [(6, .int 0), (0, .ref 41), (1, .int r2), (2, .int 1), (3, .int q1110), (4, .ref 47), (5, .ref 1000101)]) dX12_readClause_219 (by decide) rfl ?_
                  refine zW.sub (w_X12_readClause_L221h hn1 hn2 d (fun q1611 S1610 h hE hf => ?_) zN 0 S1599 h hE hf) [1, 2, 3, 4, 5, 6, 0] rfl rfl rfl rfl
                  try dsimp only at hf
                  refine z_iconst (v := 0) dX12_readClause_250 (by decide) ?_
                  refine z_istore (lv' := [(6, .int 0), (0, .ref 41), (1, .int r2), (2, .int 1), (3, .int q1110), (4, .ref 47), (5, .ref 1000101)]) dX12_readClause_251 (by decide) rfl ?_
                  refine z_aload dX12_readClause_253 rfl ?_
                  refine z_aload_n dX12_readClause_255 rfl ?_
                  obtain ⟨r1613, S1612, k1614, hf⟩ := zb_some hf
                  refine z_callVi dX12_readClause_256 tM_12_135 mt_12011 (Nat.le_of_ble_eq_true rfl) rfl rfl (z_recv hE dr_41 rfl) rfl (ia_oks_le hn1 rfl) (Nat.le_of_ble_eq_true rfl) (w_X12_look hn1 hn2 (d + 4) hE k1614) (fun h hE => ?_)
                  obtain ⟨r1616, S1615, k1617, hf⟩ := zb_some hf
                  refine z_callSi dX12_readClause_259 tM_12_237 (by decide) mt_12014 (Nat.le_of_ble_eq_true rfl) rfl rfl (ia_oks_le hn1 rfl) (Nat.le_of_ble_eq_true rfl) (w_X12_placeOf_1000101 hn1 hn2 (d + 0) hE k1617) (fun h hE => ?_)
                  refine z_istore (lv' := [(7, .int r1616), (6, .int 0), (0, .ref 41), (1, .int r2), (2, .int 1), (3, .int q1110), (4, .ref 47), (5, .ref 1000101)]) dX12_readClause_262 (by decide) rfl ?_
                  refine zW.sub (w_X12_readClause_L264h hn1 hn2 d (fun q1645 q1646 S1644 h hE hf => ?_) zN 0 r1616 S1615 h hE hf) [2, 3, 4, 5, 6, 7, 1, 0] rfl rfl rfl rfl
                  try dsimp only at hf
                  have e_ := Option.some.inj hf
                  subst e_
                  exact z_vreturn dX12_readClause_347 rfl ⟨h, rfl, rfl, hE⟩
                by_cases c1597 : ¬ r2 = 116
                · have hf := zif_t hf c1597
                  refine z_icmp_ne_t (tgt := 218) dX12_readClause_205 (by decide) c1597 ?_
                  exact zW.sub (hJ1598 S1596 _ hE hf) [0, 1, 2, 3, 4, 5] rfl rfl rfl rfl
                · have hf := zif_f hf c1597
                  refine z_icmp_ne_f (tgt := 218) dX12_readClause_205 (by decide) c1597 ?_
                  refine z_aload_n dX12_readClause_208 rfl ?_
                  refine z_dup dX12_readClause_209 rfl ?_
                  refine z_getI dX12_readClause_210 tF_12_224 hE dr_41 rfl rfl ?_
                  refine z_iconst (v := 1) dX12_readClause_213 (by decide) ?_
                  refine z_iadd dX12_readClause_214 ?_
                  obtain ⟨S1647, eS1647, hf⟩ := zl_some hf
                  refine z_putI dX12_readClause_215 tF_12_224 hE dr_41 rfl rfl rfl rfl (fun h hE => ?_)
                  rw [← eS1647] at hE
                  exact zW.sub (hJ1598 S1647 _ hE hf) [0, 1, 2, 3, 4, 5] rfl rfl rfl rfl
              by_cases c1594 : ¬ r2 = 104
              · have hf := zif_t hf c1594
                refine z_icmp_ne_t (tgt := 202) dX12_readClause_189 (by decide) c1594 ?_
                exact zW.sub (hJ1595 S1593 _ hE hf) [0, 1, 2, 3, 4, 5] rfl rfl rfl rfl
              · have hf := zif_f hf c1594
                refine z_icmp_ne_f (tgt := 202) dX12_readClause_189 (by decide) c1594 ?_
                refine z_aload_n dX12_readClause_192 rfl ?_
                refine z_dup dX12_readClause_193 rfl ?_
                refine z_getI dX12_readClause_194 tF_12_221 hE dr_41 rfl rfl ?_
                refine z_iconst (v := 1) dX12_readClause_197 (by decide) ?_
                refine z_iadd dX12_readClause_198 ?_
                obtain ⟨S1648, eS1648, hf⟩ := zl_some hf
                refine z_putI dX12_readClause_199 tF_12_221 hE dr_41 rfl rfl rfl rfl (fun h hE => ?_)
                rw [← eS1648] at hE
                exact zW.sub (hJ1595 S1648 _ hE hf) [0, 1, 2, 3, 4, 5] rfl rfl rfl rfl
            by_cases c1591 : ¬ r2 = 106
            · have hf := zif_t hf c1591
              refine z_icmp_ne_t (tgt := 186) dX12_readClause_173 (by decide) c1591 ?_
              exact zW.sub (hJ1592 S1107 _ hE hf) [3, 4, 5, 2, 1, 0] rfl rfl rfl rfl
            · have hf := zif_f hf c1591
              refine z_icmp_ne_f (tgt := 186) dX12_readClause_173 (by decide) c1591 ?_
              refine z_aload_n dX12_readClause_176 rfl ?_
              refine z_dup dX12_readClause_177 rfl ?_
              refine z_getI dX12_readClause_178 tF_12_218 hE dr_41 rfl rfl ?_
              refine z_iconst (v := 1) dX12_readClause_181 (by decide) ?_
              refine z_iadd dX12_readClause_182 ?_
              obtain ⟨S1649, eS1649, hf⟩ := zl_some hf
              refine z_putI dX12_readClause_183 tF_12_218 hE dr_41 rfl rfl rfl rfl (fun h hE => ?_)
              rw [← eS1649] at hE
              exact zW.sub (hJ1592 S1649 _ hE hf) [3, 4, 5, 2, 1, 0] rfl rfl rfl rfl
      by_cases c1108 : ¬ r2 = 106
      · have hf := zif_t hf c1108
        refine z_icmp_ne_t (tgt := 90) dX12_readClause_77 (by decide) c1108 ?_
        refine z_iload_n dX12_readClause_90 rfl ?_
        refine z_bipush (v := 104) dX12_readClause_91 (by decide) ?_
        by_cases c1650 : ¬ r2 = 104
        · have hf := zif_t hf c1650
          refine z_icmp_ne_t (tgt := 105) dX12_readClause_93 (by decide) c1650 ?_
          refine z_iconst (v := 2) dX12_readClause_105 (by decide) ?_
          refine z_aload_n dX12_readClause_106 rfl ?_
          refine z_getI dX12_readClause_107 tF_12_224 hE dr_41 rfl rfl ?_
          refine z_imul dX12_readClause_110 ?_
          exact zW.sub (hJ1109 (2 * (S1107.1 41 29)) _ hE hf) [2, 1, 0] rfl rfl rfl rfl
        · have hf := zif_f hf c1650
          refine z_icmp_ne_f (tgt := 105) dX12_readClause_93 (by decide) c1650 ?_
          refine z_iconst (v := 5) dX12_readClause_96 (by decide) ?_
          refine z_aload_n dX12_readClause_97 rfl ?_
          refine z_getI dX12_readClause_98 tF_12_221 hE dr_41 rfl rfl ?_
          refine z_imul dX12_readClause_101 ?_
          refine z_goto (tgt := 111) dX12_readClause_102 (by decide) ?_
          exact zW.sub (hJ1109 (5 * (S1107.1 41 28)) _ hE hf) [2, 1, 0] rfl rfl rfl rfl
      · have hf := zif_f hf c1108
        refine z_icmp_ne_f (tgt := 90) dX12_readClause_77 (by decide) c1108 ?_
        refine z_bipush (v := 6) dX12_readClause_80 (by decide) ?_
        refine z_aload_n dX12_readClause_82 rfl ?_
        refine z_getI dX12_readClause_83 tF_12_218 hE dr_41 rfl rfl ?_
        refine z_imul dX12_readClause_86 ?_
        refine z_goto (tgt := 111) dX12_readClause_87 (by decide) ?_
        exact zW.sub (hJ1109 (6 * (S1107.1 41 27)) _ hE hf) [2, 1, 0] rfl rfl rfl rfl
    · have hf := zif_f hf c1106
      refine z_icmp_lt_f (tgt := 48) dX12_readClause_16 (by decide) c1106 ?_
      exact zW.sub (hJ5 () _ hE hf) [1, 0] rfl rfl rfl rfl
end ZX
