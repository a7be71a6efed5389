section ZX
def f_X12_fault (v1 : Int32) (S : zS) : Option (Int32 × zS) :=
zl (sV S 41 0 0) fun S1 =>
zb (f_X12_isIn (v1.toInt64) 0 2 S1) fun r3 S2 =>
if ¬ r3 = 0 then
zl (fun (S8 : zS) =>
zl (fun (S11 : zS) =>
if ¬ v1 = 2 then
some (S11.1 41 11, S11)
else
zb (f_X12_readPlan S11) fun _ S13 =>
some (S13.1 41 11, S13)) fun J10 =>
if ¬ v1 = 1 then
J10 S8
else
zb (f_X12_goThrough 42 0 (S8.1 41 6) S8) fun _ S16 =>
J10 S16) fun J7 =>
if ¬ v1 = 0 then
J7 S2
else
zb (f_X12_readKitchen S2) fun _ S19 =>
J7 S19
else
some ((-2), S2)
theorem w_X12_fault {L : Nat} {xs : Nat → Int32} {fm : Bool} {h0 : Nat → va_E} {t : Nat × Nat × Nat} (hn1 : 64 ≤ t.1) (hn2 : t.1 ≤ 1000000) (d : Nat) {h : Nat → va_E} {S : zS} (hE : zE zDr h0 S (h, t)) {v1 : Int32} {R : Int32 × zS} (hf : f_X12_fault v1 S = some R) : zC (ia_P0 L xs fm) (d + 110) 12006 [.ref 41, .int v1] (h, t) (zQi zDr h0 t R) := by
  refine zC_of mt_12006 nn_12006 (Nat.le_of_ble_eq_true rfl) ?_
  refine zW_lv (lv' := [(0, .ref 41), (1, .int v1)]) rfl ?_
  unfold f_X12_fault at hf
  refine z_aload_n dX12_fault_0 rfl ?_
  refine z_iconst (v := 0) dX12_fault_1 (by decide) ?_
  obtain ⟨S1, eS1, hf⟩ := zl_some hf
  refine z_putI dX12_fault_2 tF_12_93 hE dr_41 rfl rfl rfl rfl (fun h hE => ?_)
  rw [← eS1] at hE
  refine z_iload_n dX12_fault_5 rfl ?_
  refine z_i2l dX12_fault_6 ?_
  refine z_lconst (v := 0) dX12_fault_7 (by decide) ?_
  refine z_ldc2 dX12_fault_8 tK_12_266 ?_
  obtain ⟨r3, S2, k4, hf⟩ := zb_some hf
  refine z_callSi dX12_fault_11 tM_12_214 (by decide) mt_12007 (Nat.le_of_ble_eq_true rfl) rfl rfl (ia_oks_le hn1 rfl) (Nat.le_of_ble_eq_true rfl) (w_X12_isIn hn1 hn2 (d + 108) hE k4) (fun h hE => ?_)
  by_cases c5 : ¬ r3 = 0
  · have hf := zif_t hf c5
    refine z_if_ne_t (tgt := 20) dX12_fault_14 (by decide) c5 ?_
    refine z_iload_n dX12_fault_20 rfl ?_
    obtain ⟨J7, eJ7, hf⟩ := zl_some hf
    have hJ7 : ∀ (S8 : zS) (h : Nat → va_E), zE zDr h0 S8 (h, t) → J7 S8 = some R → zW (ia_P0 L xs fm) ia_nx (d + 109) 12 false cX12_fault 2 (some .int) 28 [(0, .ref 41), (1, .int v1)] [] (h, t) (zQi zDr h0 t R) := by
      intro S8 h hE hf
      rw [eJ7] at hf
      refine z_iload_n dX12_fault_28 rfl ?_
      refine z_iconst (v := 1) dX12_fault_29 (by decide) ?_
      obtain ⟨J10, eJ10, hf⟩ := zl_some hf
      have hJ10 : ∀ (S11 : zS) (h : Nat → va_E), zE zDr h0 S11 (h, t) → J10 S11 = some R → zW (ia_P0 L xs fm) ia_nx (d + 109) 12 false cX12_fault 2 (some .int) 46 [(0, .ref 41), (1, .int v1)] [] (h, t) (zQi zDr h0 t R) := by
        intro S11 h hE hf
        rw [eJ10] at hf
        refine z_iload_n dX12_fault_46 rfl ?_
        refine z_iconst (v := 2) dX12_fault_47 (by decide) ?_
        by_cases c12 : ¬ v1 = 2
        · have hf := zif_t hf c12
          refine z_icmp_ne_t (tgt := 55) dX12_fault_48 (by decide) c12 ?_
          refine z_aload_n dX12_fault_55 rfl ?_
          refine z_getI dX12_fault_56 tF_12_125 hE dr_41 rfl rfl ?_
          have e_ := Option.some.inj hf
          subst e_
          exact z_ireturn dX12_fault_59 rfl ⟨h, rfl, rfl, hE⟩
        · have hf := zif_f hf c12
          refine z_icmp_ne_f (tgt := 55) dX12_fault_48 (by decide) c12 ?_
          refine z_aload_n dX12_fault_51 rfl ?_
          obtain ⟨r14, S13, k15, hf⟩ := zb_some hf
          refine z_callVv dX12_fault_52 tM_12_274 mt_12035 (Nat.le_of_ble_eq_true rfl) rfl rfl (z_recv hE dr_41 rfl) rfl (ia_oks_le hn1 rfl) (Nat.le_of_ble_eq_true rfl) (w_X12_readPlan hn1 hn2 (d + 102) hE k15) (fun h hE => ?_)
          refine z_aload_n dX12_fault_55 rfl ?_
          refine z_getI dX12_fault_56 tF_12_125 hE dr_41 rfl rfl ?_
          have e_ := Option.some.inj hf
          subst e_
          exact z_ireturn dX12_fault_59 rfl ⟨h, rfl, rfl, hE⟩
      by_cases c9 : ¬ v1 = 1
      · have hf := zif_t hf c9
        refine z_icmp_ne_t (tgt := 46) dX12_fault_30 (by decide) c9 ?_
        exact zW.sub (hJ10 S8 _ hE hf) [0, 1] rfl rfl rfl rfl
      · have hf := zif_f hf c9
        refine z_icmp_ne_f (tgt := 46) dX12_fault_30 (by decide) c9 ?_
        refine z_aload_n dX12_fault_33 rfl ?_
        refine z_aload_n dX12_fault_34 rfl ?_
        refine z_getC dX12_fault_35 tF_12_9 hE dr_41 rfl rfl ?_
        refine z_iconst (v := 0) dX12_fault_38 (by decide) ?_
        refine z_aload_n dX12_fault_39 rfl ?_
        refine z_getI dX12_fault_40 tF_12_106 hE dr_41 rfl rfl ?_
        obtain ⟨r17, S16, k18, hf⟩ := zb_some hf
        refine z_callVv dX12_fault_43 tM_12_271 mt_12021 (Nat.le_of_ble_eq_true rfl) rfl rfl (z_recv hE dr_41 rfl) rfl (ia_oks_le hn1 rfl) (Nat.le_of_ble_eq_true rfl) (w_X12_goThrough hn1 hn2 (d + 0) (by decide) hE k18) (fun h hE => ?_)
        exact zW.sub (hJ10 S16 _ hE hf) [0, 1] rfl rfl rfl rfl
    by_cases c6 : ¬ v1 = 0
    · have hf := zif_t hf c6
      refine z_if_ne_t (tgt := 28) dX12_fault_21 (by decide) c6 ?_
      exact zW.sub (hJ7 S2 _ hE hf) [0, 1] rfl rfl rfl rfl
    · have hf := zif_f hf c6
      refine z_if_ne_f (tgt := 28) dX12_fault_21 (by decide) c6 ?_
      refine z_aload_n dX12_fault_24 rfl ?_
      obtain ⟨r20, S19, k21, hf⟩ := zb_some hf
      refine z_callVv dX12_fault_25 tM_12_268 mt_12008 (Nat.le_of_ble_eq_true rfl) rfl rfl (z_recv hE dr_41 rfl) rfl (ia_oks_le hn1 rfl) (Nat.le_of_ble_eq_true rfl) (w_X12_readKitchen hn1 hn2 (d + 102) hE k21) (fun h hE => ?_)
      exact zW.sub (hJ7 S19 _ hE hf) [0, 1] rfl rfl rfl rfl
  · have hf := zif_f hf c5
    refine z_if_ne_f (tgt := 20) dX12_fault_14 (by decide) c5 ?_
    refine z_bipush (v := (-2)) dX12_fault_17 (by decide) ?_
    have e_ := Option.some.inj hf
    subst e_
    exact z_ireturn dX12_fault_19 rfl ⟨h, rfl, rfl, hE⟩
def f_X12_text_L230 (ex : Int32 → zS → Option (Int32 × zS)) (i1 : Int32) (i2 : Int32) : Nat → Int32 → zS → Option (Int32 × zS)
  | 0, _, _ => none
  | k + 1, x3, S =>
    if 24 ≤ x3 then
    ex x3 S
    else
    if ia_in x3 24 = true then
    if ia_in x3 24 = true then
    zl (sV S 46 (x3.toNatClampNeg) (S.1 47 x3.toNatClampNeg)) fun S26 =>
    zl (x3 + 1) fun (y27 : Int32) =>
    f_X12_text_L230 ex i1 i2 k y27 S26
    else none
    else none
def f_X12_text_L256 (ex : Int32 → zS → Option (Int32 × zS)) (i1 : Int32) (i2 : Int32) : Nat → Int32 → zS → Option (Int32 × zS)
  | 0, _, _ => none
  | k + 1, x3, S =>
    if 30 ≤ x3 then
    ex x3 S
    else
    if ia_in x3 30 = true then
    if ia_in x3 30 = true then
    zl (sV S 48 (x3.toNatClampNeg) (S.1 49 x3.toNatClampNeg)) fun S33 =>
    zl (x3 + 1) fun (y34 : Int32) =>
    f_X12_text_L256 ex i1 i2 k y34 S33
    else none
    else none
def f_X12_text_L282 (ex : Int32 → zS → Option (Int32 × zS)) (i1 : Int32) (i2 : Int32) : Nat → Int32 → zS → Option (Int32 × zS)
  | 0, _, _ => none
  | k + 1, x3, S =>
    if 8 ≤ x3 then
    ex x3 S
    else
    if ia_in x3 8 = true then
    if ia_in x3 8 = true then
    zl (sV S 50 (x3.toNatClampNeg) (S.1 51 x3.toNatClampNeg)) fun S40 =>
    zl (x3 + 1) fun (y41 : Int32) =>
    f_X12_text_L282 ex i1 i2 k y41 S40
    else none
    else none
def f_X12_text_L308 (ex : Int32 → zS → Option (Int32 × zS)) (i1 : Int32) (i2 : Int32) : Nat → Int32 → zS → Option (Int32 × zS)
  | 0, _, _ => none
  | k + 1, x3, S =>
    if 66 ≤ x3 then
    ex x3 S
    else
    if ia_in x3 66 = true then
    zl (sV S 54 (x3.toNatClampNeg) 0) fun S46 =>
    zl (x3 + 1) fun (y47 : Int32) =>
    f_X12_text_L308 ex i1 i2 k y47 S46
    else none
def f_X12_text_L340 (ex : Int32 → Int32 → zS → Option (Int32 × zS)) (i1 : Int32) (i2 : Int32) : Nat → Int32 → Int32 → zS → Option (Int32 × zS)
  | 0, _, _, _ => none
  | k + 1, x3, x4, S =>
    if 3 ≤ x4 then
    zl (x3 + 1) fun (y52 : Int32) =>
    if (S.1 41 24) ≤ y52 then
    ex y52 x4 S
    else
    f_X12_text_L340 ex i1 i2 k y52 0 S
    else
    if ia_in ((6 * x3) + x4) 24 = true then
    if ia_in ((7 * x3) + x4) 66 = true then
    zl (sV S 54 (((7 * x3) + x4).toNatClampNeg) (S.1 46 ((6 * x3) + x4).toNatClampNeg)) fun S56 =>
    zl (x4 + 1) fun (y57 : Int32) =>
    f_X12_text_L340 ex i1 i2 k x3 y57 S56
    else none
    else none
def f_X12_text_L329 (ex : Int32 → zS → Option (Int32 × zS)) (i1 : Int32) (i2 : Int32) : Nat → Int32 → zS → Option (Int32 × zS)
  | 0, _, _ => none
  | k + 1, x3, S =>
    if (S.1 41 24) ≤ x3 then
    ex x3 S
    else
    f_X12_text_L340 (fun (q59 : Int32) (q60 : Int32) (S58 : zS) =>
    ex q59 S58) i1 i2 zN x3 0 S
def f_X12_text_L384 (ex : Int32 → zS → Option (Int32 × zS)) (i1 : Int32) (i2 : Int32) : Nat → Int32 → zS → Option (Int32 × zS)
  | 0, _, _ => none
  | k + 1, x3, S =>
    if (S.1 41 25) ≤ x3 then
    ex x3 S
    else
    if ia_in (5 * x3) 30 = true then
    if ia_in (28 + (2 * x3)) 66 = true then
    zl (sV S 54 ((28 + (2 * x3)).toNatClampNeg) (S.1 48 (5 * x3).toNatClampNeg)) fun S66 =>
    if ia_in ((5 * x3) + 2) 30 = true then
    if ia_in ((28 + (2 * x3)) + 1) 66 = true then
    zl (sV S66 54 (((28 + (2 * x3)) + 1).toNatClampNeg) (S66.1 48 ((5 * x3) + 2).toNatClampNeg)) fun S69 =>
    zl (x3 + 1) fun (y70 : Int32) =>
    f_X12_text_L384 ex i1 i2 k y70 S69
    else none
    else none
    else none
    else none
def f_X12_text_L137 (ex : Int32 → zS → Option (Int32 × zS)) (i1 : Int32) (i2 : Int32) : Nat → Int32 → zS → Option (Int32 × zS)
  | 0, _, _ => none
  | k + 1, x3, S =>
    if 16 ≤ x3 then
    ex x3 S
    else
    if ia_in (64 + x3) 80 = true then
    if ia_in ((16 * (S.1 41 32)) + x3) 80 = true then
    zl (sV S 52 (((16 * (S.1 41 32)) + x3).toNatClampNeg) (S.1 52 (64 + x3).toNatClampNeg)) fun S81 =>
    zl (x3 + 1) fun (y82 : Int32) =>
    f_X12_text_L137 ex i1 i2 k y82 S81
    else none
    else none
def f_X12_text_L71 (ex : Int32 → zS → Option (Int32 × zS)) (i1 : Int32) (i2 : Int32) : Nat → Int32 → zS → Option (Int32 × zS)
  | 0, _, _ => none
  | k + 1, x3, S =>
    if i2 ≤ x3 then
    ex x3 S
    else
    if ia_in x3 200 = true then
    if ia_in ((200 * (S.1 41 7)) + x3) 800 = true then
    zl (sV S 43 (((200 * (S.1 41 7)) + x3).toNatClampNeg) (vp_nar .byte (S.1 42 x3.toNatClampNeg))) fun S91 =>
    zl (x3 + 1) fun (y92 : Int32) =>
    f_X12_text_L71 ex i1 i2 k y92 S91
    else none
    else none
def f_X12_text (v1 : Int32) (S : zS) : Option (Int32 × zS) :=
zl (sV S 41 0 0) fun S1 =>
zb (f_X12_isIn (v1.toInt64) 0 2 S1) fun r3 S2 =>
if r3 = 0 then
some ((-1), S2)
else
zl (fun (u8 : Unit) =>
zl (fun (u11 : Unit) =>
zb (f_X12_fault v1 S2) fun r13 S12 =>
if r13 = (-1) then
zl (S12.1 41 6) fun (y16 : Int32) =>
zl (sV S12 41 6 0) fun S17 =>
if ¬ v1 = 1 then
if ¬ v1 = 2 then
zl (sV S17 41 24 (S17.1 41 27)) fun S20 =>
zl (sV S20 41 25 (S20.1 41 28)) fun S21 =>
zl (sV S21 41 26 (S21.1 41 29)) fun S22 =>
f_X12_text_L230 (fun (q29 : Int32) (S28 : zS) =>
f_X12_text_L256 (fun (q36 : Int32) (S35 : zS) =>
f_X12_text_L282 (fun (q43 : Int32) (S42 : zS) =>
f_X12_text_L308 (fun (q49 : Int32) (S48 : zS) =>
f_X12_text_L329 (fun (q62 : Int32) (S61 : zS) =>
f_X12_text_L384 (fun (q72 : Int32) (S71 : zS) =>
zl (sV S71 41 35 (-1)) fun S73 =>
zl (sV S73 41 50 0) fun S74 =>
zl (sV S74 41 39 0) fun S75 =>
zl (sV S75 41 40 0) fun S76 =>
zl (sV S76 41 53 0) fun S77 =>
some (S77.1 41 24, S77)) v1 y16 zN 0 S61) v1 y16 zN 0 S48) v1 y16 zN 0 S42) v1 y16 zN 0 S35) v1 y16 zN 0 S28) v1 y16 zN 0 S22
else
f_X12_text_L137 (fun (q84 : Int32) (S83 : zS) =>
if ia_in (S83.1 41 32) 5 = true then
zl (sV S83 53 ((S83.1 41 32).toNatClampNeg) (S83.1 53 4)) fun S86 =>
zl (sV S86 41 32 ((S86.1 41 32) + 1)) fun S87 =>
some ((S87.1 41 32) - 1, S87)
else none) v1 y16 zN 0 S17
else
f_X12_text_L71 (fun (q94 : Int32) (S93 : zS) =>
if ia_in (S93.1 41 7) 4 = true then
zl (sV S93 44 ((S93.1 41 7).toNatClampNeg) y16) fun S96 =>
zl (sV S96 41 7 ((S96.1 41 7) + 1)) fun S97 =>
some ((S97.1 41 7) - 1, S97)
else none) v1 y16 zN 0 S17
else
some ((-1), S12)) fun J10 =>
if ¬ v1 = 2 then
J10 ()
else
if (S2.1 41 32) = 4 then
some ((-1), S2)
else
J10 ()) fun J7 =>
if ¬ v1 = 1 then
J7 ()
else
if (S2.1 41 7) = 4 then
some ((-1), S2)
else
J7 ()
theorem w_X12_text_L230 {L : Nat} {xs : Nat → Int32} {fm : Bool} {h0 : Nat → va_E} {t : Nat × Nat × Nat} (hn1 : 64 ≤ t.1) (hn2 : t.1 ≤ 1000000) (d : Nat) {ex : Int32 → zS → Option (Int32 × zS)} {i1 : Int32} {i2 : Int32} {R : Int32 × zS} (hex : ∀ (x3 : Int32) (S : zS) (h : Nat → va_E), zE zDr h0 S (h, t) → ex x3 S = some R → zW (ia_P0 L xs fm) ia_nx (d + 110) 12 false cX12_text 5 (some .int) 254 [(0, .ref 41), (1, .int i1), (2, .int i2), (3, .int x3)] [] (h, t) (zQi zDr h0 t R)) : ∀ (k : Nat) (x3 : Int32) (S : zS) (h : Nat → va_E), zE zDr h0 S (h, t) → f_X12_text_L230 ex i1 i2 k x3 S = some R → zW (ia_P0 L xs fm) ia_nx (d + 110) 12 false cX12_text 5 (some .int) 230 [(0, .ref 41), (1, .int i1), (2, .int i2), (3, .int x3)] [] (h, t) (zQi zDr h0 t R) := by
  intro k
  induction k with
  | zero => intro x3 S h hE hf; cases hf
  | succ k ih =>
    intro x3 S h hE hf
    unfold f_X12_text_L230 at hf
    refine z_iload_n dX12_text_230 rfl ?_
    refine z_bipush (v := 24) dX12_text_231 (by decide) ?_
    by_cases c23 : 24 ≤ x3
    · have hf := zif_t hf c23
      refine z_icmp_ge_t (tgt := 254) dX12_text_233 (by decide) c23 ?_
      exact zW.sub (hex x3 S _ hE hf) [0, 1, 2, 3] rfl rfl rfl rfl
    · have hf := zif_f hf c23
      refine z_icmp_ge_f (tgt := 254) dX12_text_233 (by decide) c23 ?_
      refine z_aload_n dX12_text_236 rfl ?_
      refine z_getC dX12_text_237 tF_12_37 hE dr_41 rfl rfl ?_
      refine z_iload_n dX12_text_240 rfl ?_
      refine z_aload_n dX12_text_241 rfl ?_
      refine z_getC dX12_text_242 tF_12_40 hE dr_41 rfl rfl ?_
      refine z_iload_n dX12_text_245 rfl ?_
      obtain ⟨b24, hf⟩ := zchk hf
      refine z_ialoadL dX12_text_246 hE dr_47 b24 rfl ?_
      obtain ⟨b25, hf⟩ := zchk hf
      obtain ⟨S26, eS26, hf⟩ := zl_some hf
      refine z_iastoreL (i := x3.toNatClampNeg) dX12_text_247 hE dr_46 b25 rfl (fun h hE => ?_)
      rw [← eS26] at hE
      obtain ⟨y27, ey27, hf⟩ := zl_some hf
      refine z_iincY (v := 1) (y := y27) (lv' := [(3, .int y27), (0, .ref 41), (1, .int i1), (2, .int i2)]) dX12_text_248 rfl (by decide) (by decide) ey27 rfl ?_
      refine z_goto (tgt := 230) dX12_text_251 (by decide) ?_
      exact zW.sub (ih y27 S26 _ hE hf) [1, 2, 3, 0] rfl rfl rfl rfl
theorem w_X12_text_L256 {L : Nat} {xs : Nat → Int32} {fm : Bool} {h0 : Nat → va_E} {t : Nat × Nat × Nat} (hn1 : 64 ≤ t.1) (hn2 : t.1 ≤ 1000000) (d : Nat) {ex : Int32 → zS → Option (Int32 × zS)} {i1 : Int32} {i2 : Int32} {R : Int32 × zS} (hex : ∀ (x3 : Int32) (S : zS) (h : Nat → va_E), zE zDr h0 S (h, t) → ex x3 S = some R → zW (ia_P0 L xs fm) ia_nx (d + 110) 12 false cX12_text 5 (some .int) 280 [(0, .ref 41), (1, .int i1), (2, .int i2), (3, .int x3)] [] (h, t) (zQi zDr h0 t R)) : ∀ (k : Nat) (x3 : Int32) (S : zS) (h : Nat → va_E), zE zDr h0 S (h, t) → f_X12_text_L256 ex i1 i2 k x3 S = some R → zW (ia_P0 L xs fm) ia_nx (d + 110) 12 false cX12_text 5 (some .int) 256 [(0, .ref 41), (1, .int i1), (2, .int i2), (3, .int x3)] [] (h, t) (zQi zDr h0 t R) := by
  intro k
  induction k with
  | zero => intro x3 S h hE hf; cases hf
  | succ k ih =>
    intro x3 S h hE hf
    unfold f_X12_text_L256 at hf
    refine z_iload_n dX12_text_256 rfl ?_
    refine z_bipush (v := 30) dX12_text_257 (by decide) ?_
    by_cases c30 : 30 ≤ x3
    · have hf := zif_t hf c30
      refine z_icmp_ge_t (tgt := 280) dX12_text_259 (by decide) c30 ?_
      exact zW.sub (hex x3 S _ hE hf) [0, 1, 2, 3] rfl rfl rfl rfl
    · have hf := zif_f hf c30
      refine z_icmp_ge_f (tgt := 280) dX12_text_259 (by decide) c30 ?_
      refine z_aload_n dX12_text_262 rfl ?_
      refine z_getC dX12_text_263 tF_12_43 hE dr_41 rfl rfl ?_
      refine z_iload_n dX12_text_266 rfl ?_
      refine z_aload_n dX12_text_267 rfl ?_
      refine z_getC dX12_text_268 tF_12_46 hE dr_41 rfl rfl ?_
      refine z_iload_n dX12_text_271 rfl ?_
      obtain ⟨b31, hf⟩ := zchk hf
      refine z_ialoadL dX12_text_272 hE dr_49 b31 rfl ?_
      obtain ⟨b32, hf⟩ := zchk hf
      obtain ⟨S33, eS33, hf⟩ := zl_some hf
      refine z_iastoreL (i := x3.toNatClampNeg) dX12_text_273 hE dr_48 b32 rfl (fun h hE => ?_)
      rw [← eS33] at hE
      obtain ⟨y34, ey34, hf⟩ := zl_some hf
      refine z_iincY (v := 1) (y := y34) (lv' := [(3, .int y34), (0, .ref 41), (1, .int i1), (2, .int i2)]) dX12_text_274 rfl (by decide) (by decide) ey34 rfl ?_
      refine z_goto (tgt := 256) dX12_text_277 (by decide) ?_
      exact zW.sub (ih y34 S33 _ hE hf) [1, 2, 3, 0] rfl rfl rfl rfl
theorem w_X12_text_L282 {L : Nat} {xs : Nat → Int32} {fm : Bool} {h0 : Nat → va_E} {t : Nat × Nat × Nat} (hn1 : 64 ≤ t.1) (hn2 : t.1 ≤ 1000000) (d : Nat) {ex : Int32 → zS → Option (Int32 × zS)} {i1 : Int32} {i2 : Int32} {R : Int32 × zS} (hex : ∀ (x3 : Int32) (S : zS) (h : Nat → va_E), zE zDr h0 S (h, t) → ex x3 S = some R → zW (ia_P0 L xs fm) ia_nx (d + 110) 12 false cX12_text 5 (some .int) 306 [(0, .ref 41), (1, .int i1), (2, .int i2), (3, .int x3)] [] (h, t) (zQi zDr h0 t R)) : ∀ (k : Nat) (x3 : Int32) (S : zS) (h : Nat → va_E), zE zDr h0 S (h, t) → f_X12_text_L282 ex i1 i2 k x3 S = some R → zW (ia_P0 L xs fm) ia_nx (d + 110) 12 false cX12_text 5 (some .int) 282 [(0, .ref 41), (1, .int i1), (2, .int i2), (3, .int x3)] [] (h, t) (zQi zDr h0 t R) := by
  intro k
  induction k with
  | zero => intro x3 S h hE hf; cases hf
  | succ k ih =>
    intro x3 S h hE hf
    unfold f_X12_text_L282 at hf
    refine z_iload_n dX12_text_282 rfl ?_
    refine z_bipush (v := 8) dX12_text_283 (by decide) ?_
    by_cases c37 : 8 ≤ x3
    · have hf := zif_t hf c37
      refine z_icmp_ge_t (tgt := 306) dX12_text_285 (by decide) c37 ?_
      exact zW.sub (hex x3 S _ hE hf) [0, 1, 2, 3] rfl rfl rfl rfl
    · have hf := zif_f hf c37
      refine z_icmp_ge_f (tgt := 306) dX12_text_285 (by decide) c37 ?_
      refine z_aload_n dX12_text_288 rfl ?_
      refine z_getC dX12_text_289 tF_12_49 hE dr_41 rfl rfl ?_
      refine z_iload_n dX12_text_292 rfl ?_
      refine z_aload_n dX12_text_293 rfl ?_
      refine z_getC dX12_text_294 tF_12_52 hE dr_41 rfl rfl ?_
      refine z_iload_n dX12_text_297 rfl ?_
      obtain ⟨b38, hf⟩ := zchk hf
      refine z_ialoadL dX12_text_298 hE dr_51 b38 rfl ?_
      obtain ⟨b39, hf⟩ := zchk hf
      obtain ⟨S40, eS40, hf⟩ := zl_some hf
      refine z_iastoreL (i := x3.toNatClampNeg) dX12_text_299 hE dr_50 b39 rfl (fun h hE => ?_)
      rw [← eS40] at hE
      obtain ⟨y41, ey41, hf⟩ := zl_some hf
      refine z_iincY (v := 1) (y := y41) (lv' := [(3, .int y41), (0, .ref 41), (1, .int i1), (2, .int i2)]) dX12_text_300 rfl (by decide) (by decide) ey41 rfl ?_
      refine z_goto (tgt := 282) dX12_text_303 (by decide) ?_
      exact zW.sub (ih y41 S40 _ hE hf) [1, 2, 3, 0] rfl rfl rfl rfl
theorem w_X12_text_L308 {L : Nat} {xs : Nat → Int32} {fm : Bool} {h0 : Nat → va_E} {t : Nat × Nat × Nat} (hn1 : 64 ≤ t.1) (hn2 : t.1 ≤ 1000000) (d : Nat) {ex : Int32 → zS → Option (Int32 × zS)} {i1 : Int32} {i2 : Int32} {R : Int32 × zS} (hex : ∀ (x3 : Int32) (S : zS) (h : Nat → va_E), zE zDr h0 S (h, t) → ex x3 S = some R → zW (ia_P0 L xs fm) ia_nx (d + 110) 12 false cX12_text 5 (some .int) 327 [(0, .ref 41), (1, .int i1), (2, .int i2), (3, .int x3)] [] (h, t) (zQi zDr h0 t R)) : ∀ (k : Nat) (x3 : Int32) (S : zS) (h : Nat → va_E), zE zDr h0 S (h, t) → f_X12_text_L308 ex i1 i2 k x3 S = some R → zW (ia_P0 L xs fm) ia_nx (d + 110) 12 false cX12_text 5 (some .int) 308 [(0, .ref 41), (1, .int i1), (2, .int i2), (3, .int x3)] [] (h, t) (zQi zDr h0 t R) := by
  intro k
  induction k with
  | zero => intro x3 S h hE hf; cases hf
  | succ k ih =>
    intro x3 S h hE hf
    unfold f_X12_text_L308 at hf
    refine z_iload_n dX12_text_308 rfl ?_
    refine z_bipush (v := 66) dX12_text_309 (by decide) ?_
    by_cases c44 : 66 ≤ x3
    · have hf := zif_t hf c44
      refine z_icmp_ge_t (tgt := 327) dX12_text_311 (by decide) c44 ?_
      exact zW.sub (hex x3 S _ hE hf) [0, 1, 2, 3] rfl rfl rfl rfl
    · have hf := zif_f hf c44
      refine z_icmp_ge_f (tgt := 327) dX12_text_311 (by decide) c44 ?_
      refine z_aload_n dX12_text_314 rfl ?_
      refine z_getC dX12_text_315 tF_12_61 hE dr_41 rfl rfl ?_
      refine z_iload_n dX12_text_318 rfl ?_
      refine z_iconst (v := 0) dX12_text_319 (by decide) ?_
      obtain ⟨b45, hf⟩ := zchk hf
      obtain ⟨S46, eS46, hf⟩ := zl_some hf
      refine z_iastoreL (i := x3.toNatClampNeg) dX12_text_320 hE dr_54 b45 rfl (fun h hE => ?_)
      rw [← eS46] at hE
      obtain ⟨y47, ey47, hf⟩ := zl_some hf
      refine z_iincY (v := 1) (y := y47) (lv' := [(3, .int y47), (0, .ref 41), (1, .int i1), (2, .int i2)]) dX12_text_321 rfl (by decide) (by decide) ey47 rfl ?_
      refine z_goto (tgt := 308) dX12_text_324 (by decide) ?_
      exact zW.sub (ih y47 S46 _ hE hf) [1, 2, 3, 0] rfl rfl rfl rfl
theorem w_X12_text_L340 {L : Nat} {xs : Nat → Int32} {fm : Bool} {h0 : Nat → va_E} {t : Nat × Nat × Nat} (hn1 : 64 ≤ t.1) (hn2 : t.1 ≤ 1000000) (d : Nat) {ex : Int32 → Int32 → zS → Option (Int32 × zS)} {i1 : Int32} {i2 : Int32} {R : Int32 × zS} (hex : ∀ (x3 : Int32) (x4 : Int32) (S : zS) (h : Nat → va_E), zE zDr h0 S (h, t) → ex x3 x4 S = some R → zW (ia_P0 L xs fm) ia_nx (d + 110) 12 false cX12_text 5 (some .int) 382 [(0, .ref 41), (1, .int i1), (2, .int i2), (3, .int x3), (4, .int x4)] [] (h, t) (zQi zDr h0 t R)) : ∀ (k : Nat) (x3 : Int32) (x4 : Int32) (S : zS) (h : Nat → va_E), zE zDr h0 S (h, t) → f_X12_text_L340 ex i1 i2 k x3 x4 S = some R → zW (ia_P0 L xs fm) ia_nx (d + 110) 12 false cX12_text 5 (some .int) 340 [(0, .ref 41), (1, .int i1), (2, .int i2), (3, .int x3), (4, .int x4)] [] (h, t) (zQi zDr h0 t R) := by
  intro k
  induction k with
  | zero => intro x3 x4 S h hE hf; cases hf
  | succ k ih =>
    intro x3 x4 S h hE hf
    unfold f_X12_text_L340 at hf
    refine z_iload dX12_text_340 rfl ?_
    refine z_iconst (v := 3) dX12_text_342 (by decide) ?_
    by_cases c51 : 3 ≤ x4
    · have hf := zif_t hf c51
      refine z_icmp_ge_t (tgt := 376) dX12_text_343 (by decide) c51 ?_
      obtain ⟨y52, ey52, hf⟩ := zl_some hf
      refine z_iincY (v := 1) (y := y52) (lv' := [(3, .int y52), (0, .ref 41), (1, .int i1), (2, .int i2), (4, .int x4)]) dX12_text_376 rfl (by decide) (by decide) ey52 rfl ?_
      refine z_goto (tgt := 329) dX12_text_379 (by decide) ?_
      refine z_iload_n dX12_text_329 rfl ?_
      refine z_aload_n dX12_text_330 rfl ?_
      refine z_getI dX12_text_331 tF_12_285 hE dr_41 rfl rfl ?_
      by_cases c53 : (S.1 41 24) ≤ y52
      · have hf := zif_t hf c53
        refine z_icmp_ge_t (tgt := 382) dX12_text_334 (by decide) c53 ?_
        exact zW.sub (hex y52 x4 S _ hE hf) [1, 2, 3, 0, 4] rfl rfl rfl rfl
      · have hf := zif_f hf c53
        refine z_icmp_ge_f (tgt := 382) dX12_text_334 (by decide) c53 ?_
        refine z_iconst (v := 0) dX12_text_337 (by decide) ?_
        refine z_istore (lv' := [(4, .int 0), (3, .int y52), (0, .ref 41), (1, .int i1), (2, .int i2)]) dX12_text_338 (by decide) rfl ?_
        exact zW.sub (ih y52 0 S _ hE hf) [2, 3, 4, 1, 0] rfl rfl rfl rfl
    · have hf := zif_f hf c51
      refine z_icmp_ge_f (tgt := 376) dX12_text_343 (by decide) c51 ?_
      refine z_aload_n dX12_text_346 rfl ?_
      refine z_getC dX12_text_347 tF_12_61 hE dr_41 rfl rfl ?_
      refine z_bipush (v := 7) dX12_text_350 (by decide) ?_
      refine z_iload_n dX12_text_352 rfl ?_
      refine z_imul dX12_text_353 ?_
      refine z_iload dX12_text_354 rfl ?_
      refine z_iadd dX12_text_356 ?_
      refine z_aload_n dX12_text_357 rfl ?_
      refine z_getC dX12_text_358 tF_12_37 hE dr_41 rfl rfl ?_
      refine z_bipush (v := 6) dX12_text_361 (by decide) ?_
      refine z_iload_n dX12_text_363 rfl ?_
      refine z_imul dX12_text_364 ?_
      refine z_iload dX12_text_365 rfl ?_
      refine z_iadd dX12_text_367 ?_
      obtain ⟨b54, hf⟩ := zchk hf
      refine z_ialoadL dX12_text_368 hE dr_46 b54 rfl ?_
      obtain ⟨b55, hf⟩ := zchk hf
      obtain ⟨S56, eS56, hf⟩ := zl_some hf
      refine z_iastoreL (i := ((7 * x3) + x4).toNatClampNeg) dX12_text_369 hE dr_54 b55 rfl (fun h hE => ?_)
      rw [← eS56] at hE
      obtain ⟨y57, ey57, hf⟩ := zl_some hf
      refine z_iincY (v := 1) (y := y57) (lv' := [(4, .int y57), (0, .ref 41), (1, .int i1), (2, .int i2), (3, .int x3)]) dX12_text_370 rfl (by decide) (by decide) ey57 rfl ?_
      refine z_goto (tgt := 340) dX12_text_373 (by decide) ?_
      exact zW.sub (ih x3 y57 S56 _ hE hf) [1, 2, 3, 4, 0] rfl rfl rfl rfl
theorem w_X12_text_L329 {L : Nat} {xs : Nat → Int32} {fm : Bool} {h0 : Nat → va_E} {t : Nat × Nat × Nat} (hn1 : 64 ≤ t.1) (hn2 : t.1 ≤ 1000000) (d : Nat) {ex : Int32 → zS → Option (Int32 × zS)} {i1 : Int32} {i2 : Int32} {R : Int32 × zS} (hex : ∀ (x3 : Int32) (S : zS) (h : Nat → va_E), zE zDr h0 S (h, t) → ex x3 S = some R → zW (ia_P0 L xs fm) ia_nx (d + 110) 12 false cX12_text 5 (some .int) 382 [(0, .ref 41), (1, .int i1), (2, .int i2), (3, .int x3)] [] (h, t) (zQi zDr h0 t R)) : ∀ (k : Nat) (x3 : Int32) (S : zS) (h : Nat → va_E), zE zDr h0 S (h, t) → f_X12_text_L329 ex i1 i2 k x3 S = some R → zW (ia_P0 L xs fm) ia_nx (d + 110) 12 false cX12_text 5 (some .int) 329 [(0, .ref 41), (1, .int i1), (2, .int i2), (3, .int x3)] [] (h, t) (zQi zDr h0 t R) := by
  intro k
  induction k with
  | zero => intro x3 S h hE hf; cases hf
  | succ k ih =>
    intro x3 S h hE hf
    unfold f_X12_text_L329 at hf
    refine z_iload_n dX12_text_329 rfl ?_
    refine z_aload_n dX12_text_330 rfl ?_
    refine z_getI dX12_text_331 tF_12_285 hE dr_41 rfl rfl ?_
    by_cases c50 : (S.1 41 24) ≤ x3
    · have hf := zif_t hf c50
      refine z_icmp_ge_t (tgt := 382) dX12_text_334 (by decide) c50 ?_
      exact zW.sub (hex x3 S _ hE hf) [0, 1, 2, 3] rfl rfl rfl rfl
    · have hf := zif_f hf c50
      refine z_icmp_ge_f (tgt := 382) dX12_text_334 (by decide) c50 ?_
      refine z_iconst (v := 0) dX12_text_337 (by decide) ?_
      refine z_istore (lv' := [(4, .int 0), (0, .ref 41), (1, .int i1), (2, .int i2), (3, .int x3)]) dX12_text_338 (by decide) rfl ?_
      refine zW.sub (w_X12_text_L340 hn1 hn2 d (fun q59 q60 S58 h hE hf => ?_) zN x3 0 S h hE hf) [1, 2, 3, 4, 0] rfl rfl rfl rfl
      try dsimp only at hf
      exact zW.sub (hex q59 S58 _ hE hf) [0, 1, 2, 3] rfl rfl rfl rfl
theorem w_X12_text_L384 {L : Nat} {xs : Nat → Int32} {fm : Bool} {h0 : Nat → va_E} {t : Nat × Nat × Nat} (hn1 : 64 ≤ t.1) (hn2 : t.1 ≤ 1000000) (d : Nat) {ex : Int32 → zS → Option (Int32 × zS)} {i1 : Int32} {i2 : Int32} {R : Int32 × zS} (hex : ∀ (x3 : Int32) (S : zS) (h : Nat → va_E), zE zDr h0 S (h, t) → ex x3 S = some R → zW (ia_P0 L xs fm) ia_nx (d + 110) 12 false cX12_text 5 (some .int) 440 [(0, .ref 41), (1, .int i1), (2, .int i2), (3, .int x3)] [] (h, t) (zQi zDr h0 t R)) : ∀ (k : Nat) (x3 : Int32) (S : zS) (h : Nat → va_E), zE zDr h0 S (h, t) → f_X12_text_L384 ex i1 i2 k x3 S = some R → zW (ia_P0 L xs fm) ia_nx (d + 110) 12 false cX12_text 5 (some .int) 384 [(0, .ref 41), (1, .int i1), (2, .int i2), (3, .int x3)] [] (h, t) (zQi zDr h0 t R) := by
  intro k
  induction k with
  | zero => intro x3 S h hE hf; cases hf
  | succ k ih =>
    intro x3 S h hE hf
    unfold f_X12_text_L384 at hf
    refine z_iload_n dX12_text_384 rfl ?_
    refine z_aload_n dX12_text_385 rfl ?_
    refine z_getI dX12_text_386 tF_12_288 hE dr_41 rfl rfl ?_
    by_cases c63 : (S.1 41 25) ≤ x3
    · have hf := zif_t hf c63
      refine z_icmp_ge_t (tgt := 440) dX12_text_389 (by decide) c63 ?_
      exact zW.sub (hex x3 S _ hE hf) [0, 1, 2, 3] rfl rfl rfl rfl
    · have hf := zif_f hf c63
      refine z_icmp_ge_f (tgt := 440) dX12_text_389 (by decide) c63 ?_
      refine z_aload_n dX12_text_392 rfl ?_
      refine z_getC dX12_text_393 tF_12_61 hE dr_41 rfl rfl ?_
      refine z_bipush (v := 28) dX12_text_396 (by decide) ?_
      refine z_iconst (v := 2) dX12_text_398 (by decide) ?_
      refine z_iload_n dX12_text_399 rfl ?_
      refine z_imul dX12_text_400 ?_
      refine z_iadd dX12_text_401 ?_
      refine z_aload_n dX12_text_402 rfl ?_
      refine z_getC dX12_text_403 tF_12_43 hE dr_41 rfl rfl ?_
      refine z_iconst (v := 5) dX12_text_406 (by decide) ?_
      refine z_iload_n dX12_text_407 rfl ?_
      refine z_imul dX12_text_408 ?_
      obtain ⟨b64, hf⟩ := zchk hf
      refine z_ialoadL dX12_text_409 hE dr_48 b64 rfl ?_
      obtain ⟨b65, hf⟩ := zchk hf
      obtain ⟨S66, eS66, hf⟩ := zl_some hf
      refine z_iastoreL (i := (28 + (2 * x3)).toNatClampNeg) dX12_text_410 hE dr_54 b65 rfl (fun h hE => ?_)
      rw [← eS66] at hE
      refine z_aload_n dX12_text_411 rfl ?_
      refine z_getC dX12_text_412 tF_12_61 hE dr_41 rfl rfl ?_
      refine z_bipush (v := 28) dX12_text_415 (by decide) ?_
      refine z_iconst (v := 2) dX12_text_417 (by decide) ?_
      refine z_iload_n dX12_text_418 rfl ?_
      refine z_imul dX12_text_419 ?_
      refine z_iadd dX12_text_420 ?_
      refine z_iconst (v := 1) dX12_text_421 (by decide) ?_
      refine z_iadd dX12_text_422 ?_
      refine z_aload_n dX12_text_423 rfl ?_
      refine z_getC dX12_text_424 tF_12_43 hE dr_41 rfl rfl ?_
      refine z_iconst (v := 5) dX12_text_427 (by decide) ?_
      refine z_iload_n dX12_text_428 rfl ?_
      refine z_imul dX12_text_429 ?_
      refine z_iconst (v := 2) dX12_text_430 (by decide) ?_
      refine z_iadd dX12_text_431 ?_
      obtain ⟨b67, hf⟩ := zchk hf
      refine z_ialoadL dX12_text_432 hE dr_48 b67 rfl ?_
      obtain ⟨b68, hf⟩ := zchk hf
      obtain ⟨S69, eS69, hf⟩ := zl_some hf
      refine z_iastoreL (i := ((28 + (2 * x3)) + 1).toNatClampNeg) dX12_text_433 hE dr_54 b68 rfl (fun h hE => ?_)
      rw [← eS69] at hE
      obtain ⟨y70, ey70, hf⟩ := zl_some hf
      refine z_iincY (v := 1) (y := y70) (lv' := [(3, .int y70), (0, .ref 41), (1, .int i1), (2, .int i2)]) dX12_text_434 rfl (by decide) (by decide) ey70 rfl ?_
      refine z_goto (tgt := 384) dX12_text_437 (by decide) ?_
      exact zW.sub (ih y70 S69 _ hE hf) [1, 2, 3, 0] rfl rfl rfl rfl
theorem w_X12_text_L137 {L : Nat} {xs : Nat → Int32} {fm : Bool} {h0 : Nat → va_E} {t : Nat × Nat × Nat} (hn1 : 64 ≤ t.1) (hn2 : t.1 ≤ 1000000) (d : Nat) {ex : Int32 → zS → Option (Int32 × zS)} {i1 : Int32} {i2 : Int32} {R : Int32 × zS} (hex : ∀ (x3 : Int32) (S : zS) (h : Nat → va_E), zE zDr h0 S (h, t) → ex x3 S = some R → zW (ia_P0 L xs fm) ia_nx (d + 110) 12 false cX12_text 5 (some .int) 172 [(0, .ref 41), (1, .int i1), (2, .int i2), (3, .int x3)] [] (h, t) (zQi zDr h0 t R)) : ∀ (k : Nat) (x3 : Int32) (S : zS) (h : Nat → va_E), zE zDr h0 S (h, t) → f_X12_text_L137 ex i1 i2 k x3 S = some R → zW (ia_P0 L xs fm) ia_nx (d + 110) 12 false cX12_text 5 (some .int) 137 [(0, .ref 41), (1, .int i1), (2, .int i2), (3, .int x3)] [] (h, t) (zQi zDr h0 t R) := by
  intro k
  induction k with
  | zero => intro x3 S h hE hf; cases hf
  | succ k ih =>
    intro x3 S h hE hf
    unfold f_X12_text_L137 at hf
    refine z_iload_n dX12_text_137 rfl ?_
    refine z_bipush (v := 16) dX12_text_138 (by decide) ?_
    by_cases c78 : 16 ≤ x3
    · have hf := zif_t hf c78
      refine z_icmp_ge_t (tgt := 172) dX12_text_140 (by decide) c78 ?_
      exact zW.sub (hex x3 S _ hE hf) [0, 1, 2, 3] rfl rfl rfl rfl
    · have hf := zif_f hf c78
      refine z_icmp_ge_f (tgt := 172) dX12_text_140 (by decide) c78 ?_
      refine z_aload_n dX12_text_143 rfl ?_
      refine z_getC dX12_text_144 tF_12_55 hE dr_41 rfl rfl ?_
      refine z_bipush (v := 16) dX12_text_147 (by decide) ?_
      refine z_aload_n dX12_text_149 rfl ?_
      refine z_getI dX12_text_150 tF_12_280 hE dr_41 rfl rfl ?_
      refine z_imul dX12_text_153 ?_
      refine z_iload_n dX12_text_154 rfl ?_
      refine z_iadd dX12_text_155 ?_
      refine z_aload_n dX12_text_156 rfl ?_
      refine z_getC dX12_text_157 tF_12_55 hE dr_41 rfl rfl ?_
      refine z_bipush (v := 64) dX12_text_160 (by decide) ?_
      refine z_iload_n dX12_text_162 rfl ?_
      refine z_iadd dX12_text_163 ?_
      obtain ⟨b79, hf⟩ := zchk hf
      refine z_ialoadL dX12_text_164 hE dr_52 b79 rfl ?_
      obtain ⟨b80, hf⟩ := zchk hf
      obtain ⟨S81, eS81, hf⟩ := zl_some hf
      refine z_iastoreL (i := ((16 * (S.1 41 32)) + x3).toNatClampNeg) dX12_text_165 hE dr_52 b80 rfl (fun h hE => ?_)
      rw [← eS81] at hE
      obtain ⟨y82, ey82, hf⟩ := zl_some hf
      refine z_iincY (v := 1) (y := y82) (lv' := [(3, .int y82), (0, .ref 41), (1, .int i1), (2, .int i2)]) dX12_text_166 rfl (by decide) (by decide) ey82 rfl ?_
      refine z_goto (tgt := 137) dX12_text_169 (by decide) ?_
      exact zW.sub (ih y82 S81 _ hE hf) [1, 2, 3, 0] rfl rfl rfl rfl
theorem w_X12_text_L71 {L : Nat} {xs : Nat → Int32} {fm : Bool} {h0 : Nat → va_E} {t : Nat × Nat × Nat} (hn1 : 64 ≤ t.1) (hn2 : t.1 ≤ 1000000) (d : Nat) {ex : Int32 → zS → Option (Int32 × zS)} {i1 : Int32} {i2 : Int32} {R : Int32 × zS} (hex : ∀ (x3 : Int32) (S : zS) (h : Nat → va_E), zE zDr h0 S (h, t) → ex x3 S = some R → zW (ia_P0 L xs fm) ia_nx (d + 110) 12 false cX12_text 5 (some .int) 103 [(0, .ref 41), (1, .int i1), (2, .int i2), (3, .int x3)] [] (h, t) (zQi zDr h0 t R)) : ∀ (k : Nat) (x3 : Int32) (S : zS) (h : Nat → va_E), zE zDr h0 S (h, t) → f_X12_text_L71 ex i1 i2 k x3 S = some R → zW (ia_P0 L xs fm) ia_nx (d + 110) 12 false cX12_text 5 (some .int) 71 [(0, .ref 41), (1, .int i1), (2, .int i2), (3, .int x3)] [] (h, t) (zQi zDr h0 t R) := by
  intro k
  induction k with
  | zero => intro x3 S h hE hf; cases hf
  | succ k ih =>
    intro x3 S h hE hf
    unfold f_X12_text_L71 at hf
    refine z_iload_n dX12_text_71 rfl ?_
    refine z_iload_n dX12_text_72 rfl ?_
    by_cases c88 : i2 ≤ x3
    · have hf := zif_t hf c88
      refine z_icmp_ge_t (tgt := 103) dX12_text_73 (by decide) c88 ?_
      exact zW.sub (hex x3 S _ hE hf) [0, 1, 2, 3] rfl rfl rfl rfl
    · have hf := zif_f hf c88
      refine z_icmp_ge_f (tgt := 103) dX12_text_73 (by decide) c88 ?_
      refine z_aload_n dX12_text_76 rfl ?_
      refine z_getC dX12_text_77 tF_12_13 hE dr_41 rfl rfl ?_
      refine z_sipush (v := 200) dX12_text_80 (by decide) ?_
      refine z_aload_n dX12_text_83 rfl ?_
      refine z_getI dX12_text_84 tF_12_277 hE dr_41 rfl rfl ?_
      refine z_imul dX12_text_87 ?_
      refine z_iload_n dX12_text_88 rfl ?_
      refine z_iadd dX12_text_89 ?_
      refine z_aload_n dX12_text_90 rfl ?_
      refine z_getC dX12_text_91 tF_12_9 hE dr_41 rfl rfl ?_
      refine z_iload_n dX12_text_94 rfl ?_
      obtain ⟨b89, hf⟩ := zchk hf
      refine z_baload dX12_text_95 hE dr_42 b89 ?_
      obtain ⟨b90, hf⟩ := zchk hf
      obtain ⟨S91, eS91, hf⟩ := zl_some hf
      refine z_bastore dX12_text_96 hE dr_43 b90 (fun h hE => ?_)
      rw [← eS91] at hE
      obtain ⟨y92, ey92, hf⟩ := zl_some hf
      refine z_iincY (v := 1) (y := y92) (lv' := [(3, .int y92), (0, .ref 41), (1, .int i1), (2, .int i2)]) dX12_text_97 rfl (by decide) (by decide) ey92 rfl ?_
      refine z_goto (tgt := 71) dX12_text_100 (by decide) ?_
      exact zW.sub (ih y92 S91 _ hE hf) [1, 2, 3, 0] rfl rfl rfl rfl
theorem w_X12_text {L : Nat} {xs : Nat → Int32} {fm : Bool} {h0 : Nat → va_E} {t : Nat × Nat × Nat} (hn1 : 64 ≤ t.1) (hn2 : t.1 ≤ 1000000) (d : Nat) {h : Nat → va_E} {S : zS} (hE : zE zDr h0 S (h, t)) {v1 : Int32} {R : Int32 × zS} (hf : f_X12_text v1 S = some R) : zC (ia_P0 L xs fm) (d + 111) 12038 [.ref 41, .int v1] (h, t) (zQi zDr h0 t R) := by
  refine zC_of mt_12038 nn_12038 (Nat.le_of_ble_eq_true rfl) ?_
  refine zW_lv (lv' := [(0, .ref 41), (1, .int v1)]) rfl ?_
  unfold f_X12_text at hf
  refine z_aload_n dX12_text_0 rfl ?_
  refine z_iconst (v := 0) dX12_text_1 (by decide) ?_
  obtain ⟨S1, eS1, hf⟩ := zl_some hf
  refine z_putI dX12_text_2 tF_12_93 hE dr_41 rfl rfl rfl rfl (fun h hE => ?_)
  rw [← eS1] at hE
  refine z_iload_n dX12_text_5 rfl ?_
  refine z_i2l dX12_text_6 ?_
  refine z_lconst (v := 0) dX12_text_7 (by decide) ?_
  refine z_ldc2 dX12_text_8 tK_12_266 ?_
  obtain ⟨r3, S2, k4, hf⟩ := zb_some hf
  refine z_callSi dX12_text_11 tM_12_214 (by decide) mt_12007 (Nat.le_of_ble_eq_true rfl) rfl rfl (ia_oks_le hn1 rfl) (Nat.le_of_ble_eq_true rfl) (w_X12_isIn hn1 hn2 (d + 109) hE k4) (fun h hE => ?_)
  by_cases c5 : r3 = 0
  · have hf := zif_t hf c5
    refine z_if_eq_t (tgt := 52) dX12_text_14 (by decide) c5 ?_
    refine z_iconst (v := (-1)) dX12_text_52 (by decide) ?_
    have e_ := Option.some.inj hf
    subst e_
    exact z_ireturn dX12_text_53 rfl ⟨h, rfl, rfl, hE⟩
  · have hf := zif_f hf c5
    refine z_if_eq_f (tgt := 52) dX12_text_14 (by decide) c5 ?_
    refine z_iload_n dX12_text_17 rfl ?_
    refine z_iconst (v := 1) dX12_text_18 (by decide) ?_
    obtain ⟨J7, eJ7, hf⟩ := zl_some hf
    have hJ7 : ∀ (u8 : Unit) (h : Nat → va_E), zE zDr h0 S2 (h, t) → J7 u8 = some R → zW (ia_P0 L xs fm) ia_nx (d + 110) 12 false cX12_text 5 (some .int) 30 [(0, .ref 41), (1, .int v1)] [] (h, t) (zQi zDr h0 t R) := by
      intro u8 h hE hf
      rw [eJ7] at hf
      refine z_iload_n dX12_text_30 rfl ?_
      refine z_iconst (v := 2) dX12_text_31 (by decide) ?_
      obtain ⟨J10, eJ10, hf⟩ := zl_some hf
      have hJ10 : ∀ (u11 : Unit) (h : Nat → va_E), zE zDr h0 S2 (h, t) → J10 u11 = some R → zW (ia_P0 L xs fm) ia_nx (d + 110) 12 false cX12_text 5 (some .int) 43 [(0, .ref 41), (1, .int v1)] [] (h, t) (zQi zDr h0 t R) := by
        intro u11 h hE hf
        rw [eJ10] at hf
        refine z_aload_n dX12_text_43 rfl ?_
        refine z_iload_n dX12_text_44 rfl ?_
        obtain ⟨r13, S12, k14, hf⟩ := zb_some hf
        refine z_callVi dX12_text_45 tM_12_283 mt_12006 (Nat.le_of_ble_eq_true rfl) rfl rfl (z_recv hE dr_41 rfl) rfl (ia_oks_le hn1 rfl) (Nat.le_of_ble_eq_true rfl) (w_X12_fault hn1 hn2 (d + 0) hE k14) (fun h hE => ?_)
        refine z_iconst (v := (-1)) dX12_text_48 (by decide) ?_
        by_cases c15 : r13 = (-1)
        · have hf := zif_t hf c15
          refine z_icmp_eq_t (tgt := 54) dX12_text_49 (by decide) c15 ?_
          refine z_aload_n dX12_text_54 rfl ?_
          refine z_getI dX12_text_55 tF_12_106 hE dr_41 rfl rfl ?_
          obtain ⟨y16, ey16, hf⟩ := zl_some hf
          refine z_topi ey16 ?_
          refine z_istore_n (lv' := [(2, .int y16), (0, .ref 41), (1, .int v1)]) dX12_text_58 (by decide) rfl ?_
          refine z_aload_n dX12_text_59 rfl ?_
          refine z_iconst (v := 0) dX12_text_60 (by decide) ?_
          obtain ⟨S17, eS17, hf⟩ := zl_some hf
          refine z_putI dX12_text_61 tF_12_106 hE dr_41 rfl rfl rfl rfl (fun h hE => ?_)
          rw [← eS17] at hE
          refine z_iload_n dX12_text_64 rfl ?_
          refine z_iconst (v := 1) dX12_text_65 (by decide) ?_
          by_cases c18 : ¬ v1 = 1
          · have hf := zif_t hf c18
            refine z_icmp_ne_t (tgt := 130) dX12_text_66 (by decide) c18 ?_
            refine z_iload_n dX12_text_130 rfl ?_
            refine z_iconst (v := 2) dX12_text_131 (by decide) ?_
            by_cases c19 : ¬ v1 = 2
            · have hf := zif_t hf c19
              refine z_icmp_ne_t (tgt := 204) dX12_text_132 (by decide) c19 ?_
              refine z_aload_n dX12_text_204 rfl ?_
              refine z_aload_n dX12_text_205 rfl ?_
              refine z_getI dX12_text_206 tF_12_218 hE dr_41 rfl rfl ?_
              obtain ⟨S20, eS20, hf⟩ := zl_some hf
              refine z_putI dX12_text_209 tF_12_285 hE dr_41 rfl rfl rfl rfl (fun h hE => ?_)
              rw [← eS20] at hE
              refine z_aload_n dX12_text_212 rfl ?_
              refine z_aload_n dX12_text_213 rfl ?_
              refine z_getI dX12_text_214 tF_12_221 hE dr_41 rfl rfl ?_
              obtain ⟨S21, eS21, hf⟩ := zl_some hf
              refine z_putI dX12_text_217 tF_12_288 hE dr_41 rfl rfl rfl rfl (fun h hE => ?_)
              rw [← eS21] at hE
              refine z_aload_n dX12_text_220 rfl ?_
              refine z_aload_n dX12_text_221 rfl ?_
              refine z_getI dX12_text_222 tF_12_224 hE dr_41 rfl rfl ?_
              obtain ⟨S22, eS22, hf⟩ := zl_some hf
              refine z_putI dX12_text_225 tF_12_291 hE dr_41 rfl rfl rfl rfl (fun h hE => ?_)
              rw [← eS22] at hE
              refine z_iconst (v := 0) dX12_text_228 (by decide) ?_
              refine z_istore_n (lv' := [(3, .int 0), (2, .int y16), (0, .ref 41), (1, .int v1)]) dX12_text_229 (by decide) rfl ?_
              refine zW.sub (w_X12_text_L230 hn1 hn2 d (fun q29 S28 h hE hf => ?_) zN 0 S22 h hE hf) [2, 3, 1, 0] rfl rfl rfl rfl
              try dsimp only at hf
              refine z_iconst (v := 0) dX12_text_254 (by decide) ?_
              refine z_istore_n (lv' := [(3, .int 0), (0, .ref 41), (1, .int v1), (2, .int y16)]) dX12_text_255 (by decide) rfl ?_
              refine zW.sub (w_X12_text_L256 hn1 hn2 d (fun q36 S35 h hE hf => ?_) zN 0 S28 h hE hf) [1, 2, 3, 0] rfl rfl rfl rfl
              try dsimp only at hf
              refine z_iconst (v := 0) dX12_text_280 (by decide) ?_
              refine z_istore_n (lv' := [(3, .int 0), (0, .ref 41), (1, .int v1), (2, .int y16)]) dX12_text_281 (by decide) rfl ?_
              refine zW.sub (w_X12_text_L282 hn1 hn2 d (fun q43 S42 h hE hf => ?_) zN 0 S35 h hE hf) [1, 2, 3, 0] rfl rfl rfl rfl
              try dsimp only at hf
              refine z_iconst (v := 0) dX12_text_306 (by decide) ?_
              refine z_istore_n (lv' := [(3, .int 0), (0, .ref 41), (1, .int v1), (2, .int y16)]) dX12_text_307 (by decide) rfl ?_
              refine zW.sub (w_X12_text_L308 hn1 hn2 d (fun q49 S48 h hE hf => ?_) zN 0 S42 h hE hf) [1, 2, 3, 0] rfl rfl rfl rfl
              try dsimp only at hf
              refine z_iconst (v := 0) dX12_text_327 (by decide) ?_
              refine z_istore_n (lv' := [(3, .int 0), (0, .ref 41), (1, .int v1), (2, .int y16)]) dX12_text_328 (by decide) rfl ?_
              refine zW.sub (w_X12_text_L329 hn1 hn2 d (fun q62 S61 h hE hf => ?_) zN 0 S48 h hE hf) [1, 2, 3, 0] rfl rfl rfl rfl
              try dsimp only at hf
              refine z_iconst (v := 0) dX12_text_382 (by decide) ?_
              refine z_istore_n (lv' := [(3, .int 0), (0, .ref 41), (1, .int v1), (2, .int y16)]) dX12_text_383 (by decide) rfl ?_
              refine zW.sub (w_X12_text_L384 hn1 hn2 d (fun q72 S71 h hE hf => ?_) zN 0 S61 h hE hf) [1, 2, 3, 0] rfl rfl rfl rfl
              try dsimp only at hf
              refine z_aload_n dX12_text_440 rfl ?_
              refine z_iconst (v := (-1)) dX12_text_441 (by decide) ?_
              obtain ⟨S73, eS73, hf⟩ := zl_some hf
              refine z_putI dX12_text_442 tF_12_67 hE dr_41 rfl rfl rfl rfl (fun h hE => ?_)
              rw [← eS73] at hE
              refine z_aload_n dX12_text_445 rfl ?_
              refine z_iconst (v := 0) dX12_text_446 (by decide) ?_
              obtain ⟨S74, eS74, hf⟩ := zl_some hf
              refine z_putI dX12_text_447 tF_12_294 hE dr_41 rfl rfl rfl rfl (fun h hE => ?_)
              rw [← eS74] at hE
              refine z_aload_n dX12_text_450 rfl ?_
              refine z_iconst (v := 0) dX12_text_451 (by decide) ?_
              obtain ⟨S75, eS75, hf⟩ := zl_some hf
              refine z_putI dX12_text_452 tF_12_297 hE dr_41 rfl rfl rfl rfl (fun h hE => ?_)
              rw [← eS75] at hE
              refine z_aload_n dX12_text_455 rfl ?_
              refine z_iconst (v := 0) dX12_text_456 (by decide) ?_
              obtain ⟨S76, eS76, hf⟩ := zl_some hf
              refine z_putI dX12_text_457 tF_12_300 hE dr_41 rfl rfl rfl rfl (fun h hE => ?_)
              rw [← eS76] at hE
              refine z_aload_n dX12_text_460 rfl ?_
              refine z_iconst (v := 0) dX12_text_461 (by decide) ?_
              obtain ⟨S77, eS77, hf⟩ := zl_some hf
              refine z_putI dX12_text_462 tF_12_303 hE dr_41 rfl rfl (show ia_fit .boolean (.int 0) = true from by decide) rfl (fun h hE => ?_)
              rw [← eS77] at hE
              refine z_aload_n dX12_text_465 rfl ?_
              refine z_getI dX12_text_466 tF_12_285 hE dr_41 rfl rfl ?_
              have e_ := Option.some.inj hf
              subst e_
              exact z_ireturn dX12_text_469 rfl ⟨h, rfl, rfl, hE⟩
            · have hf := zif_f hf c19
              refine z_icmp_ne_f (tgt := 204) dX12_text_132 (by decide) c19 ?_
              refine z_iconst (v := 0) dX12_text_135 (by decide) ?_
              refine z_istore_n (lv' := [(3, .int 0), (2, .int y16), (0, .ref 41), (1, .int v1)]) dX12_text_136 (by decide) rfl ?_
              refine zW.sub (w_X12_text_L137 hn1 hn2 d (fun q84 S83 h hE hf => ?_) zN 0 S17 h hE hf) [2, 3, 1, 0] rfl rfl rfl rfl
              try dsimp only at hf
              refine z_aload_n dX12_text_172 rfl ?_
              refine z_getC dX12_text_173 tF_12_58 hE dr_41 rfl rfl ?_
              refine z_aload_n dX12_text_176 rfl ?_
              refine z_getI dX12_text_177 tF_12_280 hE dr_41 rfl rfl ?_
              refine z_aload_n dX12_text_180 rfl ?_
              refine z_getC dX12_text_181 tF_12_58 hE dr_41 rfl rfl ?_
              refine z_iconst (v := 4) dX12_text_184 (by decide) ?_
              refine z_ialoadL (i := 4) dX12_text_185 hE dr_53 (by decide) (by decide) ?_
              obtain ⟨b85, hf⟩ := zchk hf
              obtain ⟨S86, eS86, hf⟩ := zl_some hf
              refine z_iastoreL (i := (S83.1 41 32).toNatClampNeg) dX12_text_186 hE dr_53 b85 rfl (fun h hE => ?_)
              rw [← eS86] at hE
              refine z_aload_n dX12_text_187 rfl ?_
              refine z_dup dX12_text_188 rfl ?_
              refine z_getI dX12_text_189 tF_12_280 hE dr_41 rfl rfl ?_
              refine z_iconst (v := 1) dX12_text_192 (by decide) ?_
              refine z_iadd dX12_text_193 ?_
              obtain ⟨S87, eS87, hf⟩ := zl_some hf
              refine z_putI dX12_text_194 tF_12_280 hE dr_41 rfl rfl rfl rfl (fun h hE => ?_)
              rw [← eS87] at hE
              refine z_aload_n dX12_text_197 rfl ?_
              refine z_getI dX12_text_198 tF_12_280 hE dr_41 rfl rfl ?_
              refine z_iconst (v := 1) dX12_text_201 (by decide) ?_
              refine z_isub dX12_text_202 ?_
              have e_ := Option.some.inj hf
              subst e_
              exact z_ireturn dX12_text_203 rfl ⟨h, rfl, rfl, hE⟩
          · have hf := zif_f hf c18
            refine z_icmp_ne_f (tgt := 130) dX12_text_66 (by decide) c18 ?_
            refine z_iconst (v := 0) dX12_text_69 (by decide) ?_
            refine z_istore_n (lv' := [(3, .int 0), (2, .int y16), (0, .ref 41), (1, .int v1)]) dX12_text_70 (by decide) rfl ?_
            refine zW.sub (w_X12_text_L71 hn1 hn2 d (fun q94 S93 h hE hf => ?_) zN 0 S17 h hE hf) [2, 3, 1, 0] rfl rfl rfl rfl
            try dsimp only at hf
            refine z_aload_n dX12_text_103 rfl ?_
            refine z_getC dX12_text_104 tF_12_16 hE dr_41 rfl rfl ?_
            refine z_aload_n dX12_text_107 rfl ?_
            refine z_getI dX12_text_108 tF_12_277 hE dr_41 rfl rfl ?_
            refine z_iload_n dX12_text_111 rfl ?_
            obtain ⟨b95, hf⟩ := zchk hf
            obtain ⟨S96, eS96, hf⟩ := zl_some hf
            refine z_iastoreL (i := (S93.1 41 7).toNatClampNeg) dX12_text_112 hE dr_44 b95 rfl (fun h hE => ?_)
            rw [← eS96] at hE
            refine z_aload_n dX12_text_113 rfl ?_
            refine z_dup dX12_text_114 rfl ?_
            refine z_getI dX12_text_115 tF_12_277 hE dr_41 rfl rfl ?_
            refine z_iconst (v := 1) dX12_text_118 (by decide) ?_
            refine z_iadd dX12_text_119 ?_
            obtain ⟨S97, eS97, hf⟩ := zl_some hf
            refine z_putI dX12_text_120 tF_12_277 hE dr_41 rfl rfl rfl rfl (fun h hE => ?_)
            rw [← eS97] at hE
            refine z_aload_n dX12_text_123 rfl ?_
            refine z_getI dX12_text_124 tF_12_277 hE dr_41 rfl rfl ?_
            refine z_iconst (v := 1) dX12_text_127 (by decide) ?_
            refine z_isub dX12_text_128 ?_
            have e_ := Option.some.inj hf
            subst e_
            exact z_ireturn dX12_text_129 rfl ⟨h, rfl, rfl, hE⟩
        · have hf := zif_f hf c15
          refine z_icmp_eq_f (tgt := 54) dX12_text_49 (by decide) c15 ?_
          refine z_iconst (v := (-1)) dX12_text_52 (by decide) ?_
          have e_ := Option.some.inj hf
          subst e_
          exact z_ireturn dX12_text_53 rfl ⟨h, rfl, rfl, hE⟩
      by_cases c9 : ¬ v1 = 2
      · have hf := zif_t hf c9
        refine z_icmp_ne_t (tgt := 43) dX12_text_32 (by decide) c9 ?_
        exact zW.sub (hJ10 () _ hE hf) [0, 1] rfl rfl rfl rfl
      · have hf := zif_f hf c9
        refine z_icmp_ne_f (tgt := 43) dX12_text_32 (by decide) c9 ?_
        refine z_aload_n dX12_text_35 rfl ?_
        refine z_getI dX12_text_36 tF_12_280 hE dr_41 rfl rfl ?_
        refine z_iconst (v := 4) dX12_text_39 (by decide) ?_
        by_cases c98 : (S2.1 41 32) = 4
        · have hf := zif_t hf c98
          refine z_icmp_eq_t (tgt := 52) dX12_text_40 (by decide) c98 ?_
          refine z_iconst (v := (-1)) dX12_text_52 (by decide) ?_
          have e_ := Option.some.inj hf
          subst e_
          exact z_ireturn dX12_text_53 rfl ⟨h, rfl, rfl, hE⟩
        · have hf := zif_f hf c98
          refine z_icmp_eq_f (tgt := 52) dX12_text_40 (by decide) c98 ?_
          exact zW.sub (hJ10 () _ hE hf) [0, 1] rfl rfl rfl rfl
    by_cases c6 : ¬ v1 = 1
    · have hf := zif_t hf c6
      refine z_icmp_ne_t (tgt := 30) dX12_text_19 (by decide) c6 ?_
      exact zW.sub (hJ7 () _ hE hf) [0, 1] rfl rfl rfl rfl
    · have hf := zif_f hf c6
      refine z_icmp_ne_f (tgt := 30) dX12_text_19 (by decide) c6 ?_
      refine z_aload_n dX12_text_22 rfl ?_
      refine z_getI dX12_text_23 tF_12_277 hE dr_41 rfl rfl ?_
      refine z_iconst (v := 4) dX12_text_26 (by decide) ?_
      by_cases c99 : (S2.1 41 7) = 4
      · have hf := zif_t hf c99
        refine z_icmp_eq_t (tgt := 52) dX12_text_27 (by decide) c99 ?_
        refine z_iconst (v := (-1)) dX12_text_52 (by decide) ?_
        have e_ := Option.some.inj hf
        subst e_
        exact z_ireturn dX12_text_53 rfl ⟨h, rfl, rfl, hE⟩
      · have hf := zif_f hf c99
        refine z_icmp_eq_f (tgt := 52) dX12_text_27 (by decide) c99 ?_
        exact zW.sub (hJ7 () _ hE hf) [0, 1] rfl rfl rfl rfl
def f_X12_isJar (v1 : Int32) (S : zS) : Option (Int32 × zS) :=
if v1 < 0 then
some (0, S)
else
if (S.1 41 24) ≤ v1 then
some (0, S)
else
some (1, S)
theorem w_X12_isJar {L : Nat} {xs : Nat → Int32} {fm : Bool} {h0 : Nat → va_E} {t : Nat × Nat × Nat} (hn1 : 64 ≤ t.1) (hn2 : t.1 ≤ 1000000) (d : Nat) {h : Nat → va_E} {S : zS} (hE : zE zDr h0 S (h, t)) {v1 : Int32} {R : Int32 × zS} (hf : f_X12_isJar v1 S = some R) : zC (ia_P0 L xs fm) (d + 1) 12040 [.ref 41, .int v1] (h, t) (zQi zDr h0 t R) := by
  refine zC_of mt_12040 nn_12040 (Nat.le_of_ble_eq_true rfl) ?_
  refine zW_lv (lv' := [(0, .ref 41), (1, .int v1)]) rfl ?_
  unfold f_X12_isJar at hf
  refine z_iload_n dX12_isJar_0 rfl ?_
  by_cases c1 : v1 < 0
  · have hf := zif_t hf c1
    refine z_if_lt_t (tgt := 16) dX12_isJar_1 (by decide) c1 ?_
    refine z_iconst (v := 0) dX12_isJar_16 (by decide) ?_
    have e_ := Option.some.inj hf
    subst e_
    exact z_zreturn dX12_isJar_17 rfl (by decide) ⟨h, rfl, rfl, hE⟩
  · have hf := zif_f hf c1
    refine z_if_lt_f (tgt := 16) dX12_isJar_1 (by decide) c1 ?_
    refine z_iload_n dX12_isJar_4 rfl ?_
    refine z_aload_n dX12_isJar_5 rfl ?_
    refine z_getI dX12_isJar_6 tF_12_285 hE dr_41 rfl rfl ?_
    by_cases c2 : (S.1 41 24) ≤ v1
    · have hf := zif_t hf c2
      refine z_icmp_ge_t (tgt := 16) dX12_isJar_9 (by decide) c2 ?_
      refine z_iconst (v := 0) dX12_isJar_16 (by decide) ?_
      have e_ := Option.some.inj hf
      subst e_
      exact z_zreturn dX12_isJar_17 rfl (by decide) ⟨h, rfl, rfl, hE⟩
    · have hf := zif_f hf c2
      refine z_icmp_ge_f (tgt := 16) dX12_isJar_9 (by decide) c2 ?_
      refine z_iconst (v := 1) dX12_isJar_12 (by decide) ?_
      refine z_goto (tgt := 17) dX12_isJar_13 (by decide) ?_
      have e_ := Option.some.inj hf
      subst e_
      exact z_zreturn dX12_isJar_17 rfl (by decide) ⟨h, rfl, rfl, hE⟩
def f_X12_holdOf (w : Nat) (v1 : Int32) (S : zS) : Option (Int32 × zS) :=
if ia_in (7 * v1) 66 = true then
if ia_in ((7 * v1) + 1) 66 = true then
if ia_in ((7 * v1) + 2) 66 = true then
some (((S.1 w (7 * v1).toNatClampNeg) + (S.1 w ((7 * v1) + 1).toNatClampNeg)) + (2 * (S.1 w ((7 * v1) + 2).toNatClampNeg)), S)
else none
else none
else none
theorem w_X12_holdOf {L : Nat} {xs : Nat → Int32} {fm : Bool} {h0 : Nat → va_E} {t : Nat × Nat × Nat} (hn1 : 64 ≤ t.1) (hn2 : t.1 ≤ 1000000) (d : Nat) {w : Nat} (ho_w : zRw w) {h : Nat → va_E} {S : zS} (hE : zE zDr h0 S (h, t)) {v1 : Int32} {R : Int32 × zS} (hf : f_X12_holdOf w v1 S = some R) : zC (ia_P0 L xs fm) (d + 1) 12041 [.ref w, .int v1] (h, t) (zQi zDr h0 t R) := by
  refine zC_of mt_12041 nn_12041 (Nat.le_of_ble_eq_true rfl) ?_
  refine zW_lv (lv' := [(0, .ref w), (1, .int v1)]) rfl ?_
  unfold f_X12_holdOf at hf
  refine z_aload_n dX12_holdOf_0 rfl ?_
  refine z_bipush (v := 7) dX12_holdOf_1 (by decide) ?_
  refine z_iload_n dX12_holdOf_3 rfl ?_
  refine z_imul dX12_holdOf_4 ?_
  obtain ⟨b1, hf⟩ := zchk hf
  refine z_ialoadL dX12_holdOf_5 hE ho_w.1 b1 rfl ?_
  refine z_aload_n dX12_holdOf_6 rfl ?_
  refine z_bipush (v := 7) dX12_holdOf_7 (by decide) ?_
  refine z_iload_n dX12_holdOf_9 rfl ?_
  refine z_imul dX12_holdOf_10 ?_
  refine z_iconst (v := 1) dX12_holdOf_11 (by decide) ?_
  refine z_iadd dX12_holdOf_12 ?_
  obtain ⟨b2, hf⟩ := zchk hf
  refine z_ialoadL dX12_holdOf_13 hE ho_w.1 b2 rfl ?_
  refine z_iadd dX12_holdOf_14 ?_
  refine z_iconst (v := 2) dX12_holdOf_15 (by decide) ?_
  refine z_aload_n dX12_holdOf_16 rfl ?_
  refine z_bipush (v := 7) dX12_holdOf_17 (by decide) ?_
  refine z_iload_n dX12_holdOf_19 rfl ?_
  refine z_imul dX12_holdOf_20 ?_
  refine z_iconst (v := 2) dX12_holdOf_21 (by decide) ?_
  refine z_iadd dX12_holdOf_22 ?_
  obtain ⟨b3, hf⟩ := zchk hf
  refine z_ialoadL dX12_holdOf_23 hE ho_w.1 b3 rfl ?_
  refine z_imul dX12_holdOf_24 ?_
  refine z_iadd dX12_holdOf_25 ?_
  have e_ := Option.some.inj hf
  subst e_
  exact z_ireturn dX12_holdOf_26 rfl ⟨h, rfl, rfl, hE⟩
def f_X12_jar (v1 : Int32) (v2 : Int32) (S : zS) : Option (Int32 × zS) :=
zb (f_X12_isJar v1 S) fun r2 S1 =>
zl (fun (S6 : zS) =>
zl (sV S6 41 0 1) fun S7 =>
if (S7.1 41 0) ≤ 0 then
if 3 ≤ v2 then
if 6 ≤ v2 then
if ¬ v2 = 10 then
if ia_in (((7 * v1) + v2) - 3) 66 = true then
some (S7.1 54 (((7 * v1) + v2) - 3).toNatClampNeg, S7)
else none
else
zb (f_X12_holdOf 54 v1 S7) fun r14 S13 =>
some (r14, S13)
else
if ia_in ((6 * v1) + v2) 24 = true then
some (S7.1 46 ((6 * v1) + v2).toNatClampNeg, S7)
else none
else
if ia_in ((7 * v1) + v2) 66 = true then
some (S7.1 54 ((7 * v1) + v2).toNatClampNeg, S7)
else none
else
some (0, S7)) fun J5 =>
if r2 = 0 then
J5 S1
else
zb (f_X12_isIn (v2.toInt64) 0 10 S1) fun r19 S18 =>
if r19 = 0 then
J5 S18
else
zl (sV S18 41 0 0) fun S22 =>
if (S22.1 41 0) ≤ 0 then
if 3 ≤ v2 then
if 6 ≤ v2 then
if ¬ v2 = 10 then
if ia_in (((7 * v1) + v2) - 3) 66 = true then
some (S22.1 54 (((7 * v1) + v2) - 3).toNatClampNeg, S22)
else none
else
zb (f_X12_holdOf 54 v1 S22) fun r29 S28 =>
some (r29, S28)
else
if ia_in ((6 * v1) + v2) 24 = true then
some (S22.1 46 ((6 * v1) + v2).toNatClampNeg, S22)
else none
else
if ia_in ((7 * v1) + v2) 66 = true then
some (S22.1 54 ((7 * v1) + v2).toNatClampNeg, S22)
else none
else
some (0, S22)
theorem w_X12_jar {L : Nat} {xs : Nat → Int32} {fm : Bool} {h0 : Nat → va_E} {t : Nat × Nat × Nat} (hn1 : 64 ≤ t.1) (hn2 : t.1 ≤ 1000000) (d : Nat) {h : Nat → va_E} {S : zS} (hE : zE zDr h0 S (h, t)) {v1 : Int32} {v2 : Int32} {R : Int32 × zS} (hf : f_X12_jar v1 v2 S = some R) : zC (ia_P0 L xs fm) (d + 2) 12039 [.ref 41, .int v1, .int v2] (h, t) (zQi zDr h0 t R) := by
  refine zC_of mt_12039 nn_12039 (Nat.le_of_ble_eq_true rfl) ?_
  refine zW_lv (lv' := [(0, .ref 41), (1, .int v1), (2, .int v2)]) rfl ?_
  unfold f_X12_jar at hf
  refine z_aload_n dX12_jar_0 rfl ?_
  refine z_aload_n dX12_jar_1 rfl ?_
  refine z_iload_n dX12_jar_2 rfl ?_
  obtain ⟨r2, S1, k3, hf⟩ := zb_some hf
  refine z_callVi dX12_jar_3 tM_12_316 mt_12040 (Nat.le_of_ble_eq_true rfl) rfl rfl (z_recv hE dr_41 rfl) rfl (ia_oks_le hn1 rfl) (Nat.le_of_ble_eq_true rfl) (w_X12_isJar hn1 hn2 (d + 0) hE k3) (fun h hE => ?_)
  obtain ⟨J5, eJ5, hf⟩ := zl_some hf
  have hJ5 : ∀ (S6 : zS) (h : Nat → va_E), zE zDr h0 S6 (h, t) → J5 S6 = some R → zW (ia_P0 L xs fm) ia_nx (d + 1) 12 false cX12_jar 3 (some .int) 25 [(0, .ref 41), (1, .int v1), (2, .int v2)] [.ref 41] (h, t) (zQi zDr h0 t R) := by
    intro S6 h hE hf
    rw [eJ5] at hf
    refine z_iconst (v := 1) dX12_jar_25 (by decide) ?_
    obtain ⟨S7, eS7, hf⟩ := zl_some hf
    refine z_putI dX12_jar_26 tF_12_93 hE dr_41 rfl rfl rfl rfl (fun h hE => ?_)
    rw [← eS7] at hE
    refine z_aload_n dX12_jar_29 rfl ?_
    refine z_getI dX12_jar_30 tF_12_93 hE dr_41 rfl rfl ?_
    by_cases c8 : (S7.1 41 0) ≤ 0
    · have hf := zif_t hf c8
      refine z_if_le_t (tgt := 38) dX12_jar_33 (by decide) c8 ?_
      refine z_iload_n dX12_jar_38 rfl ?_
      refine z_iconst (v := 3) dX12_jar_39 (by decide) ?_
      by_cases c9 : 3 ≤ v2
      · have hf := zif_t hf c9
        refine z_icmp_ge_t (tgt := 55) dX12_jar_40 (by decide) c9 ?_
        refine z_iload_n dX12_jar_55 rfl ?_
        refine z_bipush (v := 6) dX12_jar_56 (by decide) ?_
        by_cases c10 : 6 ≤ v2
        · have hf := zif_t hf c10
          refine z_icmp_ge_t (tgt := 73) dX12_jar_58 (by decide) c10 ?_
          refine z_iload_n dX12_jar_73 rfl ?_
          refine z_bipush (v := 10) dX12_jar_74 (by decide) ?_
          by_cases c11 : ¬ v2 = 10
          · have hf := zif_t hf c11
            refine z_icmp_ne_t (tgt := 90) dX12_jar_76 (by decide) c11 ?_
            refine z_aload_n dX12_jar_90 rfl ?_
            refine z_getC dX12_jar_91 tF_12_61 hE dr_41 rfl rfl ?_
            refine z_bipush (v := 7) dX12_jar_94 (by decide) ?_
            refine z_iload_n dX12_jar_96 rfl ?_
            refine z_imul dX12_jar_97 ?_
            refine z_iload_n dX12_jar_98 rfl ?_
            refine z_iadd dX12_jar_99 ?_
            refine z_iconst (v := 3) dX12_jar_100 (by decide) ?_
            refine z_isub dX12_jar_101 ?_
            obtain ⟨b12, hf⟩ := zchk hf
            refine z_ialoadL dX12_jar_102 hE dr_54 b12 rfl ?_
            have e_ := Option.some.inj hf
            subst e_
            exact z_ireturn dX12_jar_103 rfl ⟨h, rfl, rfl, hE⟩
          · have hf := zif_f hf c11
            refine z_icmp_ne_f (tgt := 90) dX12_jar_76 (by decide) c11 ?_
            refine z_aload_n dX12_jar_79 rfl ?_
            refine z_getC dX12_jar_80 tF_12_61 hE dr_41 rfl rfl ?_
            refine z_iload_n dX12_jar_83 rfl ?_
            obtain ⟨r14, S13, k15, hf⟩ := zb_some hf
            refine z_callSi dX12_jar_84 tM_12_321 (by decide) mt_12041 (Nat.le_of_ble_eq_true rfl) rfl rfl (ia_oks_le hn1 rfl) (Nat.le_of_ble_eq_true rfl) (w_X12_holdOf hn1 hn2 (d + 0) rw_54 hE k15) (fun h hE => ?_)
            refine z_goto (tgt := 103) dX12_jar_87 (by decide) ?_
            have e_ := Option.some.inj hf
            subst e_
            exact z_ireturn dX12_jar_103 rfl ⟨h, rfl, rfl, hE⟩
        · have hf := zif_f hf c10
          refine z_icmp_ge_f (tgt := 73) dX12_jar_58 (by decide) c10 ?_
          refine z_aload_n dX12_jar_61 rfl ?_
          refine z_getC dX12_jar_62 tF_12_37 hE dr_41 rfl rfl ?_
          refine z_bipush (v := 6) dX12_jar_65 (by decide) ?_
          refine z_iload_n dX12_jar_67 rfl ?_
          refine z_imul dX12_jar_68 ?_
          refine z_iload_n dX12_jar_69 rfl ?_
          refine z_iadd dX12_jar_70 ?_
          obtain ⟨b16, hf⟩ := zchk hf
          refine z_ialoadL dX12_jar_71 hE dr_46 b16 rfl ?_
          have e_ := Option.some.inj hf
          subst e_
          exact z_ireturn dX12_jar_72 rfl ⟨h, rfl, rfl, hE⟩
      · have hf := zif_f hf c9
        refine z_icmp_ge_f (tgt := 55) dX12_jar_40 (by decide) c9 ?_
        refine z_aload_n dX12_jar_43 rfl ?_
        refine z_getC dX12_jar_44 tF_12_61 hE dr_41 rfl rfl ?_
        refine z_bipush (v := 7) dX12_jar_47 (by decide) ?_
        refine z_iload_n dX12_jar_49 rfl ?_
        refine z_imul dX12_jar_50 ?_
        refine z_iload_n dX12_jar_51 rfl ?_
        refine z_iadd dX12_jar_52 ?_
        obtain ⟨b17, hf⟩ := zchk hf
        refine z_ialoadL dX12_jar_53 hE dr_54 b17 rfl ?_
        have e_ := Option.some.inj hf
        subst e_
        exact z_ireturn dX12_jar_54 rfl ⟨h, rfl, rfl, hE⟩
    · have hf := zif_f hf c8
      refine z_if_le_f (tgt := 38) dX12_jar_33 (by decide) c8 ?_
      refine z_iconst (v := 0) dX12_jar_36 (by decide) ?_
      have e_ := Option.some.inj hf
      subst e_
      exact z_ireturn dX12_jar_37 rfl ⟨h, rfl, rfl, hE⟩
  by_cases c4 : r2 = 0
  · have hf := zif_t hf c4
    refine z_if_eq_t (tgt := 25) dX12_jar_6 (by decide) c4 ?_
    exact zW.sub (hJ5 S1 _ hE hf) [0, 1, 2] rfl rfl rfl rfl
  · have hf := zif_f hf c4
    refine z_if_eq_f (tgt := 25) dX12_jar_6 (by decide) c4 ?_
    refine z_iload_n dX12_jar_9 rfl ?_
    refine z_i2l dX12_jar_10 ?_
    refine z_lconst (v := 0) dX12_jar_11 (by decide) ?_
    refine z_ldc2 dX12_jar_12 tK_12_319 ?_
    obtain ⟨r19, S18, k20, hf⟩ := zb_some hf
    refine z_callSi dX12_jar_15 tM_12_214 (by decide) mt_12007 (Nat.le_of_ble_eq_true rfl) rfl rfl (ia_oks_le hn1 rfl) (Nat.le_of_ble_eq_true rfl) (w_X12_isIn hn1 hn2 (d + 0) hE k20) (fun h hE => ?_)
    by_cases c21 : r19 = 0
    · have hf := zif_t hf c21
      refine z_if_eq_t (tgt := 25) dX12_jar_18 (by decide) c21 ?_
      exact zW.sub (hJ5 S18 _ hE hf) [0, 1, 2] rfl rfl rfl rfl
    · have hf := zif_f hf c21
      refine z_if_eq_f (tgt := 25) dX12_jar_18 (by decide) c21 ?_
      refine z_iconst (v := 0) dX12_jar_21 (by decide) ?_
      refine z_goto (tgt := 26) dX12_jar_22 (by decide) ?_
      obtain ⟨S22, eS22, hf⟩ := zl_some hf
      refine z_putI dX12_jar_26 tF_12_93 hE dr_41 rfl rfl rfl rfl (fun h hE => ?_)
      rw [← eS22] at hE
      refine z_aload_n dX12_jar_29 rfl ?_
      refine z_getI dX12_jar_30 tF_12_93 hE dr_41 rfl rfl ?_
      by_cases c23 : (S22.1 41 0) ≤ 0
      · have hf := zif_t hf c23
        refine z_if_le_t (tgt := 38) dX12_jar_33 (by decide) c23 ?_
        refine z_iload_n dX12_jar_38 rfl ?_
        refine z_iconst (v := 3) dX12_jar_39 (by decide) ?_
        by_cases c24 : 3 ≤ v2
        · have hf := zif_t hf c24
          refine z_icmp_ge_t (tgt := 55) dX12_jar_40 (by decide) c24 ?_
          refine z_iload_n dX12_jar_55 rfl ?_
          refine z_bipush (v := 6) dX12_jar_56 (by decide) ?_
          by_cases c25 : 6 ≤ v2
          · have hf := zif_t hf c25
            refine z_icmp_ge_t (tgt := 73) dX12_jar_58 (by decide) c25 ?_
            refine z_iload_n dX12_jar_73 rfl ?_
            refine z_bipush (v := 10) dX12_jar_74 (by decide) ?_
            by_cases c26 : ¬ v2 = 10
            · have hf := zif_t hf c26
              refine z_icmp_ne_t (tgt := 90) dX12_jar_76 (by decide) c26 ?_
              refine z_aload_n dX12_jar_90 rfl ?_
              refine z_getC dX12_jar_91 tF_12_61 hE dr_41 rfl rfl ?_
              refine z_bipush (v := 7) dX12_jar_94 (by decide) ?_
              refine z_iload_n dX12_jar_96 rfl ?_
              refine z_imul dX12_jar_97 ?_
              refine z_iload_n dX12_jar_98 rfl ?_
              refine z_iadd dX12_jar_99 ?_
              refine z_iconst (v := 3) dX12_jar_100 (by decide) ?_
              refine z_isub dX12_jar_101 ?_
              obtain ⟨b27, hf⟩ := zchk hf
              refine z_ialoadL dX12_jar_102 hE dr_54 b27 rfl ?_
              have e_ := Option.some.inj hf
              subst e_
              exact z_ireturn dX12_jar_103 rfl ⟨h, rfl, rfl, hE⟩
            · have hf := zif_f hf c26
              refine z_icmp_ne_f (tgt := 90) dX12_jar_76 (by decide) c26 ?_
              refine z_aload_n dX12_jar_79 rfl ?_
              refine z_getC dX12_jar_80 tF_12_61 hE dr_41 rfl rfl ?_
              refine z_iload_n dX12_jar_83 rfl ?_
              obtain ⟨r29, S28, k30, hf⟩ := zb_some hf
              refine z_callSi dX12_jar_84 tM_12_321 (by decide) mt_12041 (Nat.le_of_ble_eq_true rfl) rfl rfl (ia_oks_le hn1 rfl) (Nat.le_of_ble_eq_true rfl) (w_X12_holdOf hn1 hn2 (d + 0) rw_54 hE k30) (fun h hE => ?_)
              refine z_goto (tgt := 103) dX12_jar_87 (by decide) ?_
              have e_ := Option.some.inj hf
              subst e_
              exact z_ireturn dX12_jar_103 rfl ⟨h, rfl, rfl, hE⟩
          · have hf := zif_f hf c25
            refine z_icmp_ge_f (tgt := 73) dX12_jar_58 (by decide) c25 ?_
            refine z_aload_n dX12_jar_61 rfl ?_
            refine z_getC dX12_jar_62 tF_12_37 hE dr_41 rfl rfl ?_
            refine z_bipush (v := 6) dX12_jar_65 (by decide) ?_
            refine z_iload_n dX12_jar_67 rfl ?_
            refine z_imul dX12_jar_68 ?_
            refine z_iload_n dX12_jar_69 rfl ?_
            refine z_iadd dX12_jar_70 ?_
            obtain ⟨b31, hf⟩ := zchk hf
            refine z_ialoadL dX12_jar_71 hE dr_46 b31 rfl ?_
            have e_ := Option.some.inj hf
            subst e_
            exact z_ireturn dX12_jar_72 rfl ⟨h, rfl, rfl, hE⟩
        · have hf := zif_f hf c24
          refine z_icmp_ge_f (tgt := 55) dX12_jar_40 (by decide) c24 ?_
          refine z_aload_n dX12_jar_43 rfl ?_
          refine z_getC dX12_jar_44 tF_12_61 hE dr_41 rfl rfl ?_
          refine z_bipush (v := 7) dX12_jar_47 (by decide) ?_
          refine z_iload_n dX12_jar_49 rfl ?_
          refine z_imul dX12_jar_50 ?_
          refine z_iload_n dX12_jar_51 rfl ?_
          refine z_iadd dX12_jar_52 ?_
          obtain ⟨b32, hf⟩ := zchk hf
          refine z_ialoadL dX12_jar_53 hE dr_54 b32 rfl ?_
          have e_ := Option.some.inj hf
          subst e_
          exact z_ireturn dX12_jar_54 rfl ⟨h, rfl, rfl, hE⟩
      · have hf := zif_f hf c23
        refine z_if_le_f (tgt := 38) dX12_jar_33 (by decide) c23 ?_
        refine z_iconst (v := 0) dX12_jar_36 (by decide) ?_
        have e_ := Option.some.inj hf
        subst e_
        exact z_ireturn dX12_jar_37 rfl ⟨h, rfl, rfl, hE⟩
def f_X12_isHand (v1 : Int32) (S : zS) : Option (Int32 × zS) :=
if v1 < 0 then
some (0, S)
else
if (S.1 41 25) ≤ v1 then
some (0, S)
else
some (1, S)
theorem w_X12_isHand {L : Nat} {xs : Nat → Int32} {fm : Bool} {h0 : Nat → va_E} {t : Nat × Nat × Nat} (hn1 : 64 ≤ t.1) (hn2 : t.1 ≤ 1000000) (d : Nat) {h : Nat → va_E} {S : zS} (hE : zE zDr h0 S (h, t)) {v1 : Int32} {R : Int32 × zS} (hf : f_X12_isHand v1 S = some R) : zC (ia_P0 L xs fm) (d + 1) 12043 [.ref 41, .int v1] (h, t) (zQi zDr h0 t R) := by
  refine zC_of mt_12043 nn_12043 (Nat.le_of_ble_eq_true rfl) ?_
  refine zW_lv (lv' := [(0, .ref 41), (1, .int v1)]) rfl ?_
  unfold f_X12_isHand at hf
  refine z_iload_n dX12_isHand_0 rfl ?_
  by_cases c1 : v1 < 0
  · have hf := zif_t hf c1
    refine z_if_lt_t (tgt := 16) dX12_isHand_1 (by decide) c1 ?_
    refine z_iconst (v := 0) dX12_isHand_16 (by decide) ?_
    have e_ := Option.some.inj hf
    subst e_
    exact z_zreturn dX12_isHand_17 rfl (by decide) ⟨h, rfl, rfl, hE⟩
  · have hf := zif_f hf c1
    refine z_if_lt_f (tgt := 16) dX12_isHand_1 (by decide) c1 ?_
    refine z_iload_n dX12_isHand_4 rfl ?_
    refine z_aload_n dX12_isHand_5 rfl ?_
    refine z_getI dX12_isHand_6 tF_12_288 hE dr_41 rfl rfl ?_
    by_cases c2 : (S.1 41 25) ≤ v1
    · have hf := zif_t hf c2
      refine z_icmp_ge_t (tgt := 16) dX12_isHand_9 (by decide) c2 ?_
      refine z_iconst (v := 0) dX12_isHand_16 (by decide) ?_
      have e_ := Option.some.inj hf
      subst e_
      exact z_zreturn dX12_isHand_17 rfl (by decide) ⟨h, rfl, rfl, hE⟩
    · have hf := zif_f hf c2
      refine z_icmp_ge_f (tgt := 16) dX12_isHand_9 (by decide) c2 ?_
      refine z_iconst (v := 1) dX12_isHand_12 (by decide) ?_
      refine z_goto (tgt := 17) dX12_isHand_13 (by decide) ?_
      have e_ := Option.some.inj hf
      subst e_
      exact z_zreturn dX12_isHand_17 rfl (by decide) ⟨h, rfl, rfl, hE⟩
def f_X12_hand (v1 : Int32) (v2 : Int32) (S : zS) : Option (Int32 × zS) :=
zl (sV S 41 0 0) fun S1 =>
zb (f_X12_isHand v1 S1) fun r3 S2 =>
if r3 = 0 then
some ((-1), S2)
else
zb (f_X12_isIn (v2.toInt64) 0 6 S2) fun r7 S6 =>
if ¬ r7 = 0 then
if v2.toInt < 0 ∨ 6 < v2.toInt then
if ia_in ((5 * v1) + v2) 30 = true then
some (S6.1 48 ((5 * v1) + v2).toNatClampNeg, S6)
else none
else
if v2 = 0 then
if ia_in (28 + (2 * v1)) 66 = true then
some (S6.1 54 (28 + (2 * v1)).toNatClampNeg, S6)
else none
else if v2 = 1 then
if ia_in ((5 * v1) + v2) 30 = true then
some (S6.1 48 ((5 * v1) + v2).toNatClampNeg, S6)
else none
else if v2 = 2 then
if ia_in ((28 + (2 * v1)) + 1) 66 = true then
some (S6.1 54 ((28 + (2 * v1)) + 1).toNatClampNeg, S6)
else none
else if v2 = 3 then
if ia_in ((5 * v1) + v2) 30 = true then
some (S6.1 48 ((5 * v1) + v2).toNatClampNeg, S6)
else none
else if v2 = 4 then
if ia_in ((5 * v1) + v2) 30 = true then
some (S6.1 48 ((5 * v1) + v2).toNatClampNeg, S6)
else none
else if v2 = 5 then
if ia_in (5 * v1) 30 = true then
some (S6.1 48 (5 * v1).toNatClampNeg, S6)
else none
else if v2 = 6 then
if ia_in ((40 + (4 * v1)) + (S6.1 54 64)) 66 = true then
some (S6.1 54 ((40 + (4 * v1)) + (S6.1 54 64)).toNatClampNeg, S6)
else none
else none
else
some ((-1), S6)
theorem w_X12_hand {L : Nat} {xs : Nat → Int32} {fm : Bool} {h0 : Nat → va_E} {t : Nat × Nat × Nat} (hn1 : 64 ≤ t.1) (hn2 : t.1 ≤ 1000000) (d : Nat) {h : Nat → va_E} {S : zS} (hE : zE zDr h0 S (h, t)) {v1 : Int32} {v2 : Int32} {R : Int32 × zS} (hf : f_X12_hand v1 v2 S = some R) : zC (ia_P0 L xs fm) (d + 2) 12042 [.ref 41, .int v1, .int v2] (h, t) (zQi zDr h0 t R) := by
  refine zC_of mt_12042 nn_12042 (Nat.le_of_ble_eq_true rfl) ?_
  refine zW_lv (lv' := [(0, .ref 41), (1, .int v1), (2, .int v2)]) rfl ?_
  unfold f_X12_hand at hf
  refine z_aload_n dX12_hand_0 rfl ?_
  refine z_iconst (v := 0) dX12_hand_1 (by decide) ?_
  obtain ⟨S1, eS1, hf⟩ := zl_some hf
  refine z_putI dX12_hand_2 tF_12_93 hE dr_41 rfl rfl rfl rfl (fun h hE => ?_)
  rw [← eS1] at hE
  refine z_aload_n dX12_hand_5 rfl ?_
  refine z_iload_n dX12_hand_6 rfl ?_
  obtain ⟨r3, S2, k4, hf⟩ := zb_some hf
  refine z_callVi dX12_hand_7 tM_12_325 mt_12043 (Nat.le_of_ble_eq_true rfl) rfl rfl (z_recv hE dr_41 rfl) rfl (ia_oks_le hn1 rfl) (Nat.le_of_ble_eq_true rfl) (w_X12_isHand hn1 hn2 (d + 0) hE k4) (fun h hE => ?_)
  by_cases c5 : r3 = 0
  · have hf := zif_t hf c5
    refine z_if_eq_t (tgt := 25) dX12_hand_10 (by decide) c5 ?_
    refine z_iconst (v := (-1)) dX12_hand_25 (by decide) ?_
    have e_ := Option.some.inj hf
    subst e_
    exact z_ireturn dX12_hand_26 rfl ⟨h, rfl, rfl, hE⟩
  · have hf := zif_f hf c5
    refine z_if_eq_f (tgt := 25) dX12_hand_10 (by decide) c5 ?_
    refine z_iload_n dX12_hand_13 rfl ?_
    refine z_i2l dX12_hand_14 ?_
    refine z_lconst (v := 0) dX12_hand_15 (by decide) ?_
    refine z_ldc2 dX12_hand_16 tK_12_328 ?_
    obtain ⟨r7, S6, k8, hf⟩ := zb_some hf
    refine z_callSi dX12_hand_19 tM_12_214 (by decide) mt_12007 (Nat.le_of_ble_eq_true rfl) rfl rfl (ia_oks_le hn1 rfl) (Nat.le_of_ble_eq_true rfl) (w_X12_isIn hn1 hn2 (d + 0) hE k8) (fun h hE => ?_)
    by_cases c9 : ¬ r7 = 0
    · have hf := zif_t hf c9
      refine z_if_ne_t (tgt := 27) dX12_hand_22 (by decide) c9 ?_
      refine z_iload_n dX12_hand_27 rfl ?_
      by_cases c11 : v2.toInt < 0 ∨ 6 < v2.toInt
      · have hf := zif_t hf c11
        refine z_tabO (tgt := 127) dX12_hand_28 c11 (by decide) ?_
        refine z_aload_n dX12_hand_127 rfl ?_
        refine z_getC dX12_hand_128 tF_12_43 hE dr_41 rfl rfl ?_
        refine z_iconst (v := 5) dX12_hand_131 (by decide) ?_
        refine z_iload_n dX12_hand_132 rfl ?_
        refine z_imul dX12_hand_133 ?_
        refine z_iload_n dX12_hand_134 rfl ?_
        refine z_iadd dX12_hand_135 ?_
        obtain ⟨b10, hf⟩ := zchk hf
        refine z_ialoadL dX12_hand_136 hE dr_48 b10 rfl ?_
        have e_ := Option.some.inj hf
        subst e_
        exact z_ireturn dX12_hand_137 rfl ⟨h, rfl, rfl, hE⟩
      · have hf := zif_f hf c11
        by_cases c13 : v2 = 0
        · have hf := zif_t hf c13
          refine z_tabI (off := 44) (tgt := 72) dX12_hand_28 c11 (by rw [c13]; rfl) (by decide) ?_
          refine z_aload_n dX12_hand_72 rfl ?_
          refine z_getC dX12_hand_73 tF_12_61 hE dr_41 rfl rfl ?_
          refine z_bipush (v := 28) dX12_hand_76 (by decide) ?_
          refine z_iconst (v := 2) dX12_hand_78 (by decide) ?_
          refine z_iload_n dX12_hand_79 rfl ?_
          refine z_imul dX12_hand_80 ?_
          refine z_iadd dX12_hand_81 ?_
          obtain ⟨b12, hf⟩ := zchk hf
          refine z_ialoadL dX12_hand_82 hE dr_54 b12 rfl ?_
          have e_ := Option.some.inj hf
          subst e_
          exact z_ireturn dX12_hand_83 rfl ⟨h, rfl, rfl, hE⟩
        · have hf := zif_f hf c13
          by_cases c15 : v2 = 1
          · have hf := zif_t hf c15
            refine z_tabI (off := 99) (tgt := 127) dX12_hand_28 c11 (by rw [c15]; rfl) (by decide) ?_
            refine z_aload_n dX12_hand_127 rfl ?_
            refine z_getC dX12_hand_128 tF_12_43 hE dr_41 rfl rfl ?_
            refine z_iconst (v := 5) dX12_hand_131 (by decide) ?_
            refine z_iload_n dX12_hand_132 rfl ?_
            refine z_imul dX12_hand_133 ?_
            refine z_iload_n dX12_hand_134 rfl ?_
            refine z_iadd dX12_hand_135 ?_
            obtain ⟨b14, hf⟩ := zchk hf
            refine z_ialoadL dX12_hand_136 hE dr_48 b14 rfl ?_
            have e_ := Option.some.inj hf
            subst e_
            exact z_ireturn dX12_hand_137 rfl ⟨h, rfl, rfl, hE⟩
          · have hf := zif_f hf c15
            by_cases c17 : v2 = 2
            · have hf := zif_t hf c17
              refine z_tabI (off := 56) (tgt := 84) dX12_hand_28 c11 (by rw [c17]; rfl) (by decide) ?_
              refine z_aload_n dX12_hand_84 rfl ?_
              refine z_getC dX12_hand_85 tF_12_61 hE dr_41 rfl rfl ?_
              refine z_bipush (v := 28) dX12_hand_88 (by decide) ?_
              refine z_iconst (v := 2) dX12_hand_90 (by decide) ?_
              refine z_iload_n dX12_hand_91 rfl ?_
              refine z_imul dX12_hand_92 ?_
              refine z_iadd dX12_hand_93 ?_
              refine z_iconst (v := 1) dX12_hand_94 (by decide) ?_
              refine z_iadd dX12_hand_95 ?_
              obtain ⟨b16, hf⟩ := zchk hf
              refine z_ialoadL dX12_hand_96 hE dr_54 b16 rfl ?_
              have e_ := Option.some.inj hf
              subst e_
              exact z_ireturn dX12_hand_97 rfl ⟨h, rfl, rfl, hE⟩
            · have hf := zif_f hf c17
              by_cases c19 : v2 = 3
              · have hf := zif_t hf c19
                refine z_tabI (off := 99) (tgt := 127) dX12_hand_28 c11 (by rw [c19]; rfl) (by decide) ?_
                refine z_aload_n dX12_hand_127 rfl ?_
                refine z_getC dX12_hand_128 tF_12_43 hE dr_41 rfl rfl ?_
                refine z_iconst (v := 5) dX12_hand_131 (by decide) ?_
                refine z_iload_n dX12_hand_132 rfl ?_
                refine z_imul dX12_hand_133 ?_
                refine z_iload_n dX12_hand_134 rfl ?_
                refine z_iadd dX12_hand_135 ?_
                obtain ⟨b18, hf⟩ := zchk hf
                refine z_ialoadL dX12_hand_136 hE dr_48 b18 rfl ?_
                have e_ := Option.some.inj hf
                subst e_
                exact z_ireturn dX12_hand_137 rfl ⟨h, rfl, rfl, hE⟩
              · have hf := zif_f hf c19
                by_cases c21 : v2 = 4
                · have hf := zif_t hf c21
                  refine z_tabI (off := 99) (tgt := 127) dX12_hand_28 c11 (by rw [c21]; rfl) (by decide) ?_
                  refine z_aload_n dX12_hand_127 rfl ?_
                  refine z_getC dX12_hand_128 tF_12_43 hE dr_41 rfl rfl ?_
                  refine z_iconst (v := 5) dX12_hand_131 (by decide) ?_
                  refine z_iload_n dX12_hand_132 rfl ?_
                  refine z_imul dX12_hand_133 ?_
                  refine z_iload_n dX12_hand_134 rfl ?_
                  refine z_iadd dX12_hand_135 ?_
                  obtain ⟨b20, hf⟩ := zchk hf
                  refine z_ialoadL dX12_hand_136 hE dr_48 b20 rfl ?_
                  have e_ := Option.some.inj hf
                  subst e_
                  exact z_ireturn dX12_hand_137 rfl ⟨h, rfl, rfl, hE⟩
                · have hf := zif_f hf c21
                  by_cases c23 : v2 = 5
                  · have hf := zif_t hf c23
                    refine z_tabI (off := 70) (tgt := 98) dX12_hand_28 c11 (by rw [c23]; rfl) (by decide) ?_
                    refine z_aload_n dX12_hand_98 rfl ?_
                    refine z_getC dX12_hand_99 tF_12_43 hE dr_41 rfl rfl ?_
                    refine z_iconst (v := 5) dX12_hand_102 (by decide) ?_
                    refine z_iload_n dX12_hand_103 rfl ?_
                    refine z_imul dX12_hand_104 ?_
                    obtain ⟨b22, hf⟩ := zchk hf
                    refine z_ialoadL dX12_hand_105 hE dr_48 b22 rfl ?_
                    have e_ := Option.some.inj hf
                    subst e_
                    exact z_ireturn dX12_hand_106 rfl ⟨h, rfl, rfl, hE⟩
                  · have hf := zif_f hf c23
                    by_cases c25 : v2 = 6
                    · have hf := zif_t hf c25
                      refine z_tabI (off := 79) (tgt := 107) dX12_hand_28 c11 (by rw [c25]; rfl) (by decide) ?_
                      refine z_aload_n dX12_hand_107 rfl ?_
                      refine z_getC dX12_hand_108 tF_12_61 hE dr_41 rfl rfl ?_
                      refine z_bipush (v := 40) dX12_hand_111 (by decide) ?_
                      refine z_iconst (v := 4) dX12_hand_113 (by decide) ?_
                      refine z_iload_n dX12_hand_114 rfl ?_
                      refine z_imul dX12_hand_115 ?_
                      refine z_iadd dX12_hand_116 ?_
                      refine z_aload_n dX12_hand_117 rfl ?_
                      refine z_getC dX12_hand_118 tF_12_61 hE dr_41 rfl rfl ?_
                      refine z_bipush (v := 64) dX12_hand_121 (by decide) ?_
                      refine z_ialoadL (i := 64) dX12_hand_123 hE dr_54 (by decide) (by decide) ?_
                      refine z_iadd dX12_hand_124 ?_
                      obtain ⟨b24, hf⟩ := zchk hf
                      refine z_ialoadL dX12_hand_125 hE dr_54 b24 rfl ?_
                      have e_ := Option.some.inj hf
                      subst e_
                      exact z_ireturn dX12_hand_126 rfl ⟨h, rfl, rfl, hE⟩
                    · have hf := zif_f hf c25
                      cases hf
    · have hf := zif_f hf c9
      refine z_if_ne_f (tgt := 27) dX12_hand_22 (by decide) c9 ?_
      refine z_iconst (v := (-1)) dX12_hand_25 (by decide) ?_
      have e_ := Option.some.inj hf
      subst e_
      exact z_ireturn dX12_hand_26 rfl ⟨h, rfl, rfl, hE⟩
def f_X12_tool (v1 : Int32) (v2 : Int32) (S : zS) : Option (Int32 × zS) :=
zl (sV S 41 0 0) fun S1 =>
if v1 < 0 then
some ((-1), S1)
else
if (S1.1 41 26) ≤ v1 then
some ((-1), S1)
else
zb (f_X12_isIn (v2.toInt64) 0 1 S1) fun r5 S4 =>
if r5 = 0 then
some ((-1), S4)
else
if ia_in ((2 * v1) + v2) 8 = true then
some (S4.1 50 ((2 * v1) + v2).toNatClampNeg, S4)
else none
theorem w_X12_tool {L : Nat} {xs : Nat → Int32} {fm : Bool} {h0 : Nat → va_E} {t : Nat × Nat × Nat} (hn1 : 64 ≤ t.1) (hn2 : t.1 ≤ 1000000) (d : Nat) {h : Nat → va_E} {S : zS} (hE : zE zDr h0 S (h, t)) {v1 : Int32} {v2 : Int32} {R : Int32 × zS} (hf : f_X12_tool v1 v2 S = some R) : zC (ia_P0 L xs fm) (d + 2) 12044 [.ref 41, .int v1, .int v2] (h, t) (zQi zDr h0 t R) := by
  refine zC_of mt_12044 nn_12044 (Nat.le_of_ble_eq_true rfl) ?_
  refine zW_lv (lv' := [(0, .ref 41), (1, .int v1), (2, .int v2)]) rfl ?_
  unfold f_X12_tool at hf
  refine z_aload_n dX12_tool_0 rfl ?_
  refine z_iconst (v := 0) dX12_tool_1 (by decide) ?_
  obtain ⟨S1, eS1, hf⟩ := zl_some hf
  refine z_putI dX12_tool_2 tF_12_93 hE dr_41 rfl rfl rfl rfl (fun h hE => ?_)
  rw [← eS1] at hE
  refine z_iload_n dX12_tool_5 rfl ?_
  by_cases c2 : v1 < 0
  · have hf := zif_t hf c2
    refine z_if_lt_t (tgt := 40) dX12_tool_6 (by decide) c2 ?_
    refine z_iconst (v := (-1)) dX12_tool_40 (by decide) ?_
    have e_ := Option.some.inj hf
    subst e_
    exact z_ireturn dX12_tool_41 rfl ⟨h, rfl, rfl, hE⟩
  · have hf := zif_f hf c2
    refine z_if_lt_f (tgt := 40) dX12_tool_6 (by decide) c2 ?_
    refine z_iload_n dX12_tool_9 rfl ?_
    refine z_aload_n dX12_tool_10 rfl ?_
    refine z_getI dX12_tool_11 tF_12_291 hE dr_41 rfl rfl ?_
    by_cases c3 : (S1.1 41 26) ≤ v1
    · have hf := zif_t hf c3
      refine z_icmp_ge_t (tgt := 40) dX12_tool_14 (by decide) c3 ?_
      refine z_iconst (v := (-1)) dX12_tool_40 (by decide) ?_
      have e_ := Option.some.inj hf
      subst e_
      exact z_ireturn dX12_tool_41 rfl ⟨h, rfl, rfl, hE⟩
    · have hf := zif_f hf c3
      refine z_icmp_ge_f (tgt := 40) dX12_tool_14 (by decide) c3 ?_
      refine z_iload_n dX12_tool_17 rfl ?_
      refine z_i2l dX12_tool_18 ?_
      refine z_lconst (v := 0) dX12_tool_19 (by decide) ?_
      refine z_lconst (v := 1) dX12_tool_20 (by decide) ?_
      obtain ⟨r5, S4, k6, hf⟩ := zb_some hf
      refine z_callSi dX12_tool_21 tM_12_214 (by decide) mt_12007 (Nat.le_of_ble_eq_true rfl) rfl rfl (ia_oks_le hn1 rfl) (Nat.le_of_ble_eq_true rfl) (w_X12_isIn hn1 hn2 (d + 0) hE k6) (fun h hE => ?_)
      by_cases c7 : r5 = 0
      · have hf := zif_t hf c7
        refine z_if_eq_t (tgt := 40) dX12_tool_24 (by decide) c7 ?_
        refine z_iconst (v := (-1)) dX12_tool_40 (by decide) ?_
        have e_ := Option.some.inj hf
        subst e_
        exact z_ireturn dX12_tool_41 rfl ⟨h, rfl, rfl, hE⟩
      · have hf := zif_f hf c7
        refine z_if_eq_f (tgt := 40) dX12_tool_24 (by decide) c7 ?_
        refine z_aload_n dX12_tool_27 rfl ?_
        refine z_getC dX12_tool_28 tF_12_49 hE dr_41 rfl rfl ?_
        refine z_iconst (v := 2) dX12_tool_31 (by decide) ?_
        refine z_iload_n dX12_tool_32 rfl ?_
        refine z_imul dX12_tool_33 ?_
        refine z_iload_n dX12_tool_34 rfl ?_
        refine z_iadd dX12_tool_35 ?_
        obtain ⟨b8, hf⟩ := zchk hf
        refine z_ialoadL dX12_tool_36 hE dr_50 b8 rfl ?_
        refine z_goto (tgt := 41) dX12_tool_37 (by decide) ?_
        have e_ := Option.some.inj hf
        subst e_
        exact z_ireturn dX12_tool_41 rfl ⟨h, rfl, rfl, hE⟩
def f_X12_law (v1 : Int32) (S : zS) : Option (Int32 × zS) :=
zl (sV S 41 0 0) fun S1 =>
if (S1.1 41 24) = 0 then
some (0, S1)
else
zl (fun (S5 : zS) =>
zl (sV S5 41 35 v1) fun S6 =>
some (1, S6)) fun J4 =>
if v1 = (-1) then
J4 S1
else
zb (f_X12_isIn (v1.toInt64) 0 (((S1.1 41 7) - 1).toInt64) S1) fun r8 S7 =>
if ¬ r8 = 0 then
J4 S7
else
some (0, S7)
theorem w_X12_law {L : Nat} {xs : Nat → Int32} {fm : Bool} {h0 : Nat → va_E} {t : Nat × Nat × Nat} (hn1 : 64 ≤ t.1) (hn2 : t.1 ≤ 1000000) (d : Nat) {h : Nat → va_E} {S : zS} (hE : zE zDr h0 S (h, t)) {v1 : Int32} {R : Int32 × zS} (hf : f_X12_law v1 S = some R) : zC (ia_P0 L xs fm) (d + 2) 12045 [.ref 41, .int v1] (h, t) (zQi zDr h0 t R) := by
  refine zC_of mt_12045 nn_12045 (Nat.le_of_ble_eq_true rfl) ?_
  refine zW_lv (lv' := [(0, .ref 41), (1, .int v1)]) rfl ?_
  unfold f_X12_law at hf
  refine z_aload_n dX12_law_0 rfl ?_
  refine z_iconst (v := 0) dX12_law_1 (by decide) ?_
  obtain ⟨S1, eS1, hf⟩ := zl_some hf
  refine z_putI dX12_law_2 tF_12_93 hE dr_41 rfl rfl rfl rfl (fun h hE => ?_)
  rw [← eS1] at hE
  refine z_aload_n dX12_law_5 rfl ?_
  refine z_getI dX12_law_6 tF_12_285 hE dr_41 rfl rfl ?_
  by_cases c2 : (S1.1 41 24) = 0
  · have hf := zif_t hf c2
    refine z_if_eq_t (tgt := 33) dX12_law_9 (by decide) c2 ?_
    refine z_iconst (v := 0) dX12_law_33 (by decide) ?_
    have e_ := Option.some.inj hf
    subst e_
    exact z_zreturn dX12_law_34 rfl (by decide) ⟨h, rfl, rfl, hE⟩
  · have hf := zif_f hf c2
    refine z_if_eq_f (tgt := 33) dX12_law_9 (by decide) c2 ?_
    refine z_iload_n dX12_law_12 rfl ?_
    refine z_iconst (v := (-1)) dX12_law_13 (by decide) ?_
    obtain ⟨J4, eJ4, hf⟩ := zl_some hf
    have hJ4 : ∀ (S5 : zS) (h : Nat → va_E), zE zDr h0 S5 (h, t) → J4 S5 = some R → zW (ia_P0 L xs fm) ia_nx (d + 1) 12 false cX12_law 2 (some .boolean) 35 [(0, .ref 41), (1, .int v1)] [] (h, t) (zQi zDr h0 t R) := by
      intro S5 h hE hf
      rw [eJ4] at hf
      refine z_aload_n dX12_law_35 rfl ?_
      refine z_iload_n dX12_law_36 rfl ?_
      obtain ⟨S6, eS6, hf⟩ := zl_some hf
      refine z_putI dX12_law_37 tF_12_67 hE dr_41 rfl rfl rfl rfl (fun h hE => ?_)
      rw [← eS6] at hE
      refine z_iconst (v := 1) dX12_law_40 (by decide) ?_
      have e_ := Option.some.inj hf
      subst e_
      exact z_zreturn dX12_law_41 rfl (by decide) ⟨h, rfl, rfl, hE⟩
    by_cases c3 : v1 = (-1)
    · have hf := zif_t hf c3
      refine z_icmp_eq_t (tgt := 35) dX12_law_14 (by decide) c3 ?_
      exact zW.sub (hJ4 S1 _ hE hf) [0, 1] rfl rfl rfl rfl
    · have hf := zif_f hf c3
      refine z_icmp_eq_f (tgt := 35) dX12_law_14 (by decide) c3 ?_
      refine z_iload_n dX12_law_17 rfl ?_
      refine z_i2l dX12_law_18 ?_
      refine z_lconst (v := 0) dX12_law_19 (by decide) ?_
      refine z_aload_n dX12_law_20 rfl ?_
      refine z_getI dX12_law_21 tF_12_277 hE dr_41 rfl rfl ?_
      refine z_iconst (v := 1) dX12_law_24 (by decide) ?_
      refine z_isub dX12_law_25 ?_
      refine z_i2l dX12_law_26 ?_
      obtain ⟨r8, S7, k9, hf⟩ := zb_some hf
      refine z_callSi dX12_law_27 tM_12_214 (by decide) mt_12007 (Nat.le_of_ble_eq_true rfl) rfl rfl (ia_oks_le hn1 rfl) (Nat.le_of_ble_eq_true rfl) (w_X12_isIn hn1 hn2 (d + 0) hE k9) (fun h hE => ?_)
      by_cases c10 : ¬ r8 = 0
      · have hf := zif_t hf c10
        refine z_if_ne_t (tgt := 35) dX12_law_30 (by decide) c10 ?_
        exact zW.sub (hJ4 S7 _ hE hf) [0, 1] rfl rfl rfl rfl
      · have hf := zif_f hf c10
        refine z_if_ne_f (tgt := 35) dX12_law_30 (by decide) c10 ?_
        refine z_iconst (v := 0) dX12_law_33 (by decide) ?_
        have e_ := Option.some.inj hf
        subst e_
        exact z_zreturn dX12_law_34 rfl (by decide) ⟨h, rfl, rfl, hE⟩
def f_X12_step (v1 : Int32) (v2 : Int32) (S : zS) : Option (Int32 × zS) :=
zl (sV S 41 0 0) fun S1 =>
zb (f_X12_isIn (v1.toInt64) 0 (((S1.1 41 32) - 1).toInt64) S1) fun r3 S2 =>
if r3 = 0 then
some ((-1), S2)
else
if ia_in v1 5 = true then
zb (f_X12_isIn (v2.toInt64) 0 (((S2.1 53 v1.toNatClampNeg) - 1).toInt64) S2) fun r8 S7 =>
if r8 = 0 then
some ((-1), S7)
else
if ia_in ((16 * v1) + v2) 80 = true then
some (S7.1 52 ((16 * v1) + v2).toNatClampNeg, S7)
else none
else none
theorem w_X12_step {L : Nat} {xs : Nat → Int32} {fm : Bool} {h0 : Nat → va_E} {t : Nat × Nat × Nat} (hn1 : 64 ≤ t.1) (hn2 : t.1 ≤ 1000000) (d : Nat) {h : Nat → va_E} {S : zS} (hE : zE zDr h0 S (h, t)) {v1 : Int32} {v2 : Int32} {R : Int32 × zS} (hf : f_X12_step v1 v2 S = some R) : zC (ia_P0 L xs fm) (d + 2) 12046 [.ref 41, .int v1, .int v2] (h, t) (zQi zDr h0 t R) := by
  refine zC_of mt_12046 nn_12046 (Nat.le_of_ble_eq_true rfl) ?_
  refine zW_lv (lv' := [(0, .ref 41), (1, .int v1), (2, .int v2)]) rfl ?_
  unfold f_X12_step at hf
  refine z_aload_n dX12_step_0 rfl ?_
  refine z_iconst (v := 0) dX12_step_1 (by decide) ?_
  obtain ⟨S1, eS1, hf⟩ := zl_some hf
  refine z_putI dX12_step_2 tF_12_93 hE dr_41 rfl rfl rfl rfl (fun h hE => ?_)
  rw [← eS1] at hE
  refine z_iload_n dX12_step_5 rfl ?_
  refine z_i2l dX12_step_6 ?_
  refine z_lconst (v := 0) dX12_step_7 (by decide) ?_
  refine z_aload_n dX12_step_8 rfl ?_
  refine z_getI dX12_step_9 tF_12_280 hE dr_41 rfl rfl ?_
  refine z_iconst (v := 1) dX12_step_12 (by decide) ?_
  refine z_isub dX12_step_13 ?_
  refine z_i2l dX12_step_14 ?_
  obtain ⟨r3, S2, k4, hf⟩ := zb_some hf
  refine z_callSi dX12_step_15 tM_12_214 (by decide) mt_12007 (Nat.le_of_ble_eq_true rfl) rfl rfl (ia_oks_le hn1 rfl) (Nat.le_of_ble_eq_true rfl) (w_X12_isIn hn1 hn2 (d + 0) hE k4) (fun h hE => ?_)
  by_cases c5 : r3 = 0
  · have hf := zif_t hf c5
    refine z_if_eq_t (tgt := 53) dX12_step_18 (by decide) c5 ?_
    refine z_iconst (v := (-1)) dX12_step_53 (by decide) ?_
    have e_ := Option.some.inj hf
    subst e_
    exact z_ireturn dX12_step_54 rfl ⟨h, rfl, rfl, hE⟩
  · have hf := zif_f hf c5
    refine z_if_eq_f (tgt := 53) dX12_step_18 (by decide) c5 ?_
    refine z_iload_n dX12_step_21 rfl ?_
    refine z_i2l dX12_step_22 ?_
    refine z_lconst (v := 0) dX12_step_23 (by decide) ?_
    refine z_aload_n dX12_step_24 rfl ?_
    refine z_getC dX12_step_25 tF_12_58 hE dr_41 rfl rfl ?_
    refine z_iload_n dX12_step_28 rfl ?_
    obtain ⟨b6, hf⟩ := zchk hf
    refine z_ialoadL dX12_step_29 hE dr_53 b6 rfl ?_
    refine z_iconst (v := 1) dX12_step_30 (by decide) ?_
    refine z_isub dX12_step_31 ?_
    refine z_i2l dX12_step_32 ?_
    obtain ⟨r8, S7, k9, hf⟩ := zb_some hf
    refine z_callSi dX12_step_33 tM_12_214 (by decide) mt_12007 (Nat.le_of_ble_eq_true rfl) rfl rfl (ia_oks_le hn1 rfl) (Nat.le_of_ble_eq_true rfl) (w_X12_isIn hn1 hn2 (d + 0) hE k9) (fun h hE => ?_)
    by_cases c10 : r8 = 0
    · have hf := zif_t hf c10
      refine z_if_eq_t (tgt := 53) dX12_step_36 (by decide) c10 ?_
      refine z_iconst (v := (-1)) dX12_step_53 (by decide) ?_
      have e_ := Option.some.inj hf
      subst e_
      exact z_ireturn dX12_step_54 rfl ⟨h, rfl, rfl, hE⟩
    · have hf := zif_f hf c10
      refine z_if_eq_f (tgt := 53) dX12_step_36 (by decide) c10 ?_
      refine z_aload_n dX12_step_39 rfl ?_
      refine z_getC dX12_step_40 tF_12_55 hE dr_41 rfl rfl ?_
      refine z_bipush (v := 16) dX12_step_43 (by decide) ?_
      refine z_iload_n dX12_step_45 rfl ?_
      refine z_imul dX12_step_46 ?_
      refine z_iload_n dX12_step_47 rfl ?_
      refine z_iadd dX12_step_48 ?_
      obtain ⟨b11, hf⟩ := zchk hf
      refine z_ialoadL dX12_step_49 hE dr_52 b11 rfl ?_
      refine z_goto (tgt := 54) dX12_step_50 (by decide) ?_
      have e_ := Option.some.inj hf
      subst e_
      exact z_ireturn dX12_step_54 rfl ⟨h, rfl, rfl, hE⟩
def f_X12_isTool (v1 : Int32) (S : zS) : Option (Int32 × zS) :=
zb (f_X12_isIn (v1.toInt64) (-1) (((S.1 41 26) - 1).toInt64) S) fun r2 S1 =>
if r2 = 0 ∨ r2 = 1 then some (r2, S1) else none
theorem w_X12_isTool {L : Nat} {xs : Nat → Int32} {fm : Bool} {h0 : Nat → va_E} {t : Nat × Nat × Nat} (hn1 : 64 ≤ t.1) (hn2 : t.1 ≤ 1000000) (d : Nat) {h : Nat → va_E} {S : zS} (hE : zE zDr h0 S (h, t)) {v1 : Int32} {R : Int32 × zS} (hf : f_X12_isTool v1 S = some R) : zC (ia_P0 L xs fm) (d + 2) 12048 [.ref 41, .int v1] (h, t) (zQi zDr h0 t R) := by
  refine zC_of mt_12048 nn_12048 (Nat.le_of_ble_eq_true rfl) ?_
  refine zW_lv (lv' := [(0, .ref 41), (1, .int v1)]) rfl ?_
  unfold f_X12_isTool at hf
  refine z_iload_n dX12_isTool_0 rfl ?_
  refine z_i2l dX12_isTool_1 ?_
  refine z_ldc2 dX12_isTool_2 tK_12_306 ?_
  refine z_aload_n dX12_isTool_5 rfl ?_
  refine z_getI dX12_isTool_6 tF_12_291 hE dr_41 rfl rfl ?_
  refine z_iconst (v := 1) dX12_isTool_9 (by decide) ?_
  refine z_isub dX12_isTool_10 ?_
  refine z_i2l dX12_isTool_11 ?_
  obtain ⟨r2, S1, k3, hf⟩ := zb_some hf
  refine z_callSi dX12_isTool_12 tM_12_214 (by decide) mt_12007 (Nat.le_of_ble_eq_true rfl) rfl rfl (ia_oks_le hn1 rfl) (Nat.le_of_ble_eq_true rfl) (w_X12_isIn hn1 hn2 (d + 0) hE k3) (fun h hE => ?_)
  obtain ⟨b4, hf⟩ := zchk hf
  have e_ := Option.some.inj hf
  subst e_
  exact z_zreturn dX12_isTool_15 rfl b4 ⟨h, rfl, rfl, hE⟩
def f_X12_gripBy (v1 : Int32) (v2 : Int32) (v3 : Int32) (v4 : Int32) (v5 : Int32) (v6 : Int32) (S : zS) : Option (Int32 × zS) :=
zl (fun (q4 : Int32) (S3 : zS) =>
some (if 0 < (if q4 < 999 then q4 else 999) then (if q4 < 999 then q4 else 999) else 0, S3)) fun J2 =>
if ¬ (S.1 41 35) = (-1) then
zl (sV S 45 112 v1) fun S5 =>
zl (sV S5 45 115 v2) fun S6 =>
zl (sV S6 45 119 v3) fun S7 =>
zl (sV S7 45 105 v4) fun S8 =>
zl (sV S8 45 99 v5) fun S9 =>
zl (sV S9 45 97 v6) fun S10 =>
if ia_in (S10.1 41 35) 4 = true then
zb (f_X12_goThrough 43 (200 * (S10.1 41 35)) (S10.1 44 (S10.1 41 35).toNatClampNeg) S10) fun _ S12 =>
zl (S12.1 41 14) fun (y15 : Int32) =>
J2 y15 S12
else none
else
zl ((((v1 + v6) - (4 * v3)) - (3 * (if 0 < (v4 - v2) then (v4 - v2) else 0))) - v5) fun (y16 : Int32) =>
J2 y16 S
theorem w_X12_gripBy {L : Nat} {xs : Nat → Int32} {fm : Bool} {h0 : Nat → va_E} {t : Nat × Nat × Nat} (hn1 : 64 ≤ t.1) (hn2 : t.1 ≤ 1000000) (d : Nat) {h : Nat → va_E} {S : zS} (hE : zE zDr h0 S (h, t)) {v1 : Int32} {v2 : Int32} {v3 : Int32} {v4 : Int32} {v5 : Int32} {v6 : Int32} {R : Int32 × zS} (hf : f_X12_gripBy v1 v2 v3 v4 v5 v6 S = some R) : zC (ia_P0 L xs fm) (d + 110) 12050 [.ref 41, .int v1, .int v2, .int v3, .int v4, .int v5, .int v6] (h, t) (zQi zDr h0 t R) := by
  refine zC_of mt_12050 nn_12050 (Nat.le_of_ble_eq_true rfl) ?_
  refine zW_lv (lv' := [(0, .ref 41), (1, .int v1), (2, .int v2), (3, .int v3), (4, .int v4), (5, .int v5), (6, .int v6)]) rfl ?_
  unfold f_X12_gripBy at hf
  refine z_aload_n dX12_gripBy_0 rfl ?_
  refine z_getI dX12_gripBy_1 tF_12_67 hE dr_41 rfl rfl ?_
  refine z_iconst (v := (-1)) dX12_gripBy_4 (by decide) ?_
  obtain ⟨J2, eJ2, hf⟩ := zl_some hf
  have hJ2 : ∀ (q4 : Int32) (S3 : zS) (h : Nat → va_E), zE zDr h0 S3 (h, t) → J2 q4 S3 = some R → zW (ia_P0 L xs fm) ia_nx (d + 109) 12 false cX12_gripBy 8 (some .int) 117 [(0, .ref 41), (1, .int v1), (2, .int v2), (3, .int v3), (4, .int v4), (5, .int v5), (6, .int v6), (7, .int q4)] [] (h, t) (zQi zDr h0 t R) := by
    intro q4 S3 h hE hf
    rw [eJ2] at hf
    refine z_iconst (v := 0) dX12_gripBy_117 (by decide) ?_
    refine z_sipush (v := 999) dX12_gripBy_118 (by decide) ?_
    refine z_iload dX12_gripBy_121 rfl ?_
    refine z_mmin dX12_gripBy_123 tM_12_310 (Nat.le_of_ble_eq_true rfl) ?_
    refine z_mmax dX12_gripBy_126 tM_12_308 (Nat.le_of_ble_eq_true rfl) ?_
    have e_ := Option.some.inj hf
    subst e_
    exact z_ireturn dX12_gripBy_129 rfl ⟨h, rfl, rfl, hE⟩
  by_cases c1 : ¬ (S.1 41 35) = (-1)
  · have hf := zif_t hf c1
    refine z_icmp_ne_t (tgt := 35) dX12_gripBy_5 (by decide) c1 ?_
    refine z_aload_n dX12_gripBy_35 rfl ?_
    refine z_getC dX12_gripBy_36 tF_12_20 hE dr_41 rfl rfl ?_
    refine z_bipush (v := 112) dX12_gripBy_39 (by decide) ?_
    refine z_iload_n dX12_gripBy_41 rfl ?_
    obtain ⟨S5, eS5, hf⟩ := zl_some hf
    refine z_iastoreL (i := 112) dX12_gripBy_42 hE dr_45 (by decide) (by decide) (fun h hE => ?_)
    rw [← eS5] at hE
    refine z_aload_n dX12_gripBy_43 rfl ?_
    refine z_getC dX12_gripBy_44 tF_12_20 hE dr_41 rfl rfl ?_
    refine z_bipush (v := 115) dX12_gripBy_47 (by decide) ?_
    refine z_iload_n dX12_gripBy_49 rfl ?_
    obtain ⟨S6, eS6, hf⟩ := zl_some hf
    refine z_iastoreL (i := 115) dX12_gripBy_50 hE dr_45 (by decide) (by decide) (fun h hE => ?_)
    rw [← eS6] at hE
    refine z_aload_n dX12_gripBy_51 rfl ?_
    refine z_getC dX12_gripBy_52 tF_12_20 hE dr_41 rfl rfl ?_
    refine z_bipush (v := 119) dX12_gripBy_55 (by decide) ?_
    refine z_iload_n dX12_gripBy_57 rfl ?_
    obtain ⟨S7, eS7, hf⟩ := zl_some hf
    refine z_iastoreL (i := 119) dX12_gripBy_58 hE dr_45 (by decide) (by decide) (fun h hE => ?_)
    rw [← eS7] at hE
    refine z_aload_n dX12_gripBy_59 rfl ?_
    refine z_getC dX12_gripBy_60 tF_12_20 hE dr_41 rfl rfl ?_
    refine z_bipush (v := 105) dX12_gripBy_63 (by decide) ?_
    refine z_iload dX12_gripBy_65 rfl ?_
    obtain ⟨S8, eS8, hf⟩ := zl_some hf
    refine z_iastoreL (i := 105) dX12_gripBy_67 hE dr_45 (by decide) (by decide) (fun h hE => ?_)
    rw [← eS8] at hE
    refine z_aload_n dX12_gripBy_68 rfl ?_
    refine z_getC dX12_gripBy_69 tF_12_20 hE dr_41 rfl rfl ?_
    refine z_bipush (v := 99) dX12_gripBy_72 (by decide) ?_
    refine z_iload dX12_gripBy_74 rfl ?_
    obtain ⟨S9, eS9, hf⟩ := zl_some hf
    refine z_iastoreL (i := 99) dX12_gripBy_76 hE dr_45 (by decide) (by decide) (fun h hE => ?_)
    rw [← eS9] at hE
    refine z_aload_n dX12_gripBy_77 rfl ?_
    refine z_getC dX12_gripBy_78 tF_12_20 hE dr_41 rfl rfl ?_
    refine z_bipush (v := 97) dX12_gripBy_81 (by decide) ?_
    refine z_iload dX12_gripBy_83 rfl ?_
    obtain ⟨S10, eS10, hf⟩ := zl_some hf
    refine z_iastoreL (i := 97) dX12_gripBy_85 hE dr_45 (by decide) (by decide) (fun h hE => ?_)
    rw [← eS10] at hE
    refine z_aload_n dX12_gripBy_86 rfl ?_
    refine z_aload_n dX12_gripBy_87 rfl ?_
    refine z_getC dX12_gripBy_88 tF_12_13 hE dr_41 rfl rfl ?_
    refine z_sipush (v := 200) dX12_gripBy_91 (by decide) ?_
    refine z_aload_n dX12_gripBy_94 rfl ?_
    refine z_getI dX12_gripBy_95 tF_12_67 hE dr_41 rfl rfl ?_
    refine z_imul dX12_gripBy_98 ?_
    refine z_aload_n dX12_gripBy_99 rfl ?_
    refine z_getC dX12_gripBy_100 tF_12_16 hE dr_41 rfl rfl ?_
    refine z_aload_n dX12_gripBy_103 rfl ?_
    refine z_getI dX12_gripBy_104 tF_12_67 hE dr_41 rfl rfl ?_
    obtain ⟨b11, hf⟩ := zchk hf
    refine z_ialoadL dX12_gripBy_107 hE dr_44 b11 rfl ?_
    obtain ⟨r13, S12, k14, hf⟩ := zb_some hf
    refine z_callVv dX12_gripBy_108 tM_12_271 mt_12021 (Nat.le_of_ble_eq_true rfl) rfl rfl (z_recv hE dr_41 rfl) rfl (ia_oks_le hn1 rfl) (Nat.le_of_ble_eq_true rfl) (w_X12_goThrough hn1 hn2 (d + 0) (by decide) hE k14) (fun h hE => ?_)
    refine z_aload_n dX12_gripBy_111 rfl ?_
    refine z_getI dX12_gripBy_112 tF_12_201 hE dr_41 rfl rfl ?_
    obtain ⟨y15, ey15, hf⟩ := zl_some hf
    refine z_topi ey15 ?_
    refine z_istore (lv' := [(7, .int y15), (0, .ref 41), (1, .int v1), (2, .int v2), (3, .int v3), (4, .int v4), (5, .int v5), (6, .int v6)]) dX12_gripBy_115 (by decide) rfl ?_
    exact zW.sub (hJ2 y15 S12 _ hE hf) [1, 2, 3, 4, 5, 6, 7, 0] rfl rfl rfl rfl
  · have hf := zif_f hf c1
    refine z_icmp_ne_f (tgt := 35) dX12_gripBy_5 (by decide) c1 ?_
    refine z_iload_n dX12_gripBy_8 rfl ?_
    refine z_iload dX12_gripBy_9 rfl ?_
    refine z_iadd dX12_gripBy_11 ?_
    refine z_iconst (v := 4) dX12_gripBy_12 (by decide) ?_
    refine z_iload_n dX12_gripBy_13 rfl ?_
    refine z_imul dX12_gripBy_14 ?_
    refine z_isub dX12_gripBy_15 ?_
    refine z_iconst (v := 3) dX12_gripBy_16 (by decide) ?_
    refine z_iconst (v := 0) dX12_gripBy_17 (by decide) ?_
    refine z_iload dX12_gripBy_18 rfl ?_
    refine z_iload_n dX12_gripBy_20 rfl ?_
    refine z_isub dX12_gripBy_21 ?_
    refine z_mmax dX12_gripBy_22 tM_12_308 (Nat.le_of_ble_eq_true rfl) ?_
    refine z_imul dX12_gripBy_25 ?_
    refine z_isub dX12_gripBy_26 ?_
    refine z_iload dX12_gripBy_27 rfl ?_
    refine z_isub dX12_gripBy_29 ?_
    obtain ⟨y16, ey16, hf⟩ := zl_some hf
    refine z_topi ey16 ?_
    refine z_istore (lv' := [(7, .int y16), (0, .ref 41), (1, .int v1), (2, .int v2), (3, .int v3), (4, .int v4), (5, .int v5), (6, .int v6)]) dX12_gripBy_30 (by decide) rfl ?_
    refine z_goto (tgt := 117) dX12_gripBy_32 (by decide) ?_
    exact zW.sub (hJ2 y16 S _ hE hf) [1, 2, 3, 4, 5, 6, 7, 0] rfl rfl rfl rfl
def f_X12_gripOf (w : Nat) (v2 : Int32) (v3 : Int32) (v4 : Int32) (S : zS) : Option (Int32 × zS) :=
if ia_in (28 + (2 * v2)) 66 = true then
if ia_in ((5 * v2) + 1) 30 = true then
if ia_in ((28 + (2 * v2)) + 1) 66 = true then
if ia_in ((6 * v4) + 4) 24 = true then
if ia_in ((7 * v4) + 2) 66 = true then
zl (fun (q8 : Int32) =>
zb (f_X12_gripBy (S.1 w (28 + (2 * v2)).toNatClampNeg) (S.1 48 ((5 * v2) + 1).toNatClampNeg) (S.1 w ((28 + (2 * v2)) + 1).toNatClampNeg) (S.1 46 ((6 * v4) + 4).toNatClampNeg) (S.1 w ((7 * v4) + 2).toNatClampNeg) q8 S) fun r10 S9 =>
some (r10, S9)) fun J7 =>
if ¬ v3 = (-1) then
if ia_in (2 * v3) 8 = true then
J7 (S.1 50 (2 * v3).toNatClampNeg)
else none
else
J7 0
else none
else none
else none
else none
else none
theorem w_X12_gripOf {L : Nat} {xs : Nat → Int32} {fm : Bool} {h0 : Nat → va_E} {t : Nat × Nat × Nat} (hn1 : 64 ≤ t.1) (hn2 : t.1 ≤ 1000000) (d : Nat) {w : Nat} (ho_w : zRw w) {h : Nat → va_E} {S : zS} (hE : zE zDr h0 S (h, t)) {v2 : Int32} {v3 : Int32} {v4 : Int32} {R : Int32 × zS} (hf : f_X12_gripOf w v2 v3 v4 S = some R) : zC (ia_P0 L xs fm) (d + 111) 12049 [.ref 41, .ref w, .int v2, .int v3, .int v4] (h, t) (zQi zDr h0 t R) := by
  refine zC_of mt_12049 nn_12049 (Nat.le_of_ble_eq_true rfl) ?_
  refine zW_lv (lv' := [(0, .ref 41), (1, .ref w), (2, .int v2), (3, .int v3), (4, .int v4)]) rfl ?_
  unfold f_X12_gripOf at hf
  refine z_aload_n dX12_gripOf_0 rfl ?_
  refine z_aload_n dX12_gripOf_1 rfl ?_
  refine z_bipush (v := 28) dX12_gripOf_2 (by decide) ?_
  refine z_iconst (v := 2) dX12_gripOf_4 (by decide) ?_
  refine z_iload_n dX12_gripOf_5 rfl ?_
  refine z_imul dX12_gripOf_6 ?_
  refine z_iadd dX12_gripOf_7 ?_
  obtain ⟨b1, hf⟩ := zchk hf
  refine z_ialoadL dX12_gripOf_8 hE ho_w.1 b1 rfl ?_
  refine z_aload_n dX12_gripOf_9 rfl ?_
  refine z_getC dX12_gripOf_10 tF_12_43 hE dr_41 rfl rfl ?_
  refine z_iconst (v := 5) dX12_gripOf_13 (by decide) ?_
  refine z_iload_n dX12_gripOf_14 rfl ?_
  refine z_imul dX12_gripOf_15 ?_
  refine z_iconst (v := 1) dX12_gripOf_16 (by decide) ?_
  refine z_iadd dX12_gripOf_17 ?_
  obtain ⟨b2, hf⟩ := zchk hf
  refine z_ialoadL dX12_gripOf_18 hE dr_48 b2 rfl ?_
  refine z_aload_n dX12_gripOf_19 rfl ?_
  refine z_bipush (v := 28) dX12_gripOf_20 (by decide) ?_
  refine z_iconst (v := 2) dX12_gripOf_22 (by decide) ?_
  refine z_iload_n dX12_gripOf_23 rfl ?_
  refine z_imul dX12_gripOf_24 ?_
  refine z_iadd dX12_gripOf_25 ?_
  refine z_iconst (v := 1) dX12_gripOf_26 (by decide) ?_
  refine z_iadd dX12_gripOf_27 ?_
  obtain ⟨b3, hf⟩ := zchk hf
  refine z_ialoadL dX12_gripOf_28 hE ho_w.1 b3 rfl ?_
  refine z_aload_n dX12_gripOf_29 rfl ?_
  refine z_getC dX12_gripOf_30 tF_12_37 hE dr_41 rfl rfl ?_
  refine z_bipush (v := 6) dX12_gripOf_33 (by decide) ?_
  refine z_iload dX12_gripOf_35 rfl ?_
  refine z_imul dX12_gripOf_37 ?_
  refine z_iconst (v := 4) dX12_gripOf_38 (by decide) ?_
  refine z_iadd dX12_gripOf_39 ?_
  obtain ⟨b4, hf⟩ := zchk hf
  refine z_ialoadL dX12_gripOf_40 hE dr_46 b4 rfl ?_
  refine z_aload_n dX12_gripOf_41 rfl ?_
  refine z_bipush (v := 7) dX12_gripOf_42 (by decide) ?_
  refine z_iload dX12_gripOf_44 rfl ?_
  refine z_imul dX12_gripOf_46 ?_
  refine z_iconst (v := 2) dX12_gripOf_47 (by decide) ?_
  refine z_iadd dX12_gripOf_48 ?_
  obtain ⟨b5, hf⟩ := zchk hf
  refine z_ialoadL dX12_gripOf_49 hE ho_w.1 b5 rfl ?_
  refine z_iload_n dX12_gripOf_50 rfl ?_
  refine z_iconst (v := (-1)) dX12_gripOf_51 (by decide) ?_
  obtain ⟨J7, eJ7, hf⟩ := zl_some hf
  have hJ7 : ∀ (q8 : Int32) (h : Nat → va_E), zE zDr h0 S (h, t) → J7 q8 = some R → zW (ia_P0 L xs fm) ia_nx (d + 110) 12 false cX12_gripOf 5 (some .int) 67 [(0, .ref 41), (1, .ref w), (2, .int v2), (3, .int v3), (4, .int v4)] [.int q8, .int (S.1 w ((7 * v4) + 2).toNatClampNeg), .int (S.1 46 ((6 * v4) + 4).toNatClampNeg), .int (S.1 w ((28 + (2 * v2)) + 1).toNatClampNeg), .int (S.1 48 ((5 * v2) + 1).toNatClampNeg), .int (S.1 w (28 + (2 * v2)).toNatClampNeg), .ref 41] (h, t) (zQi zDr h0 t R) := by
    intro q8 h hE hf
    rw [eJ7] at hf
    obtain ⟨r10, S9, k11, hf⟩ := zb_some hf
    refine z_callVi dX12_gripOf_67 tM_12_312 mt_12050 (Nat.le_of_ble_eq_true rfl) rfl rfl (z_recv hE dr_41 rfl) rfl (by have q0 : 41 < t.1 := Nat.lt_of_lt_of_le (by decide) hn1; have q1 : w < t.1 := Nat.lt_of_lt_of_le ho_w.2 (Nat.le_trans (by decide) hn1); simp [ia_oks, ia_okv, q0, q1]) (Nat.le_of_ble_eq_true rfl) (w_X12_gripBy hn1 hn2 (d + 0) hE k11) (fun h hE => ?_)
    have e_ := Option.some.inj hf
    subst e_
    exact z_ireturn dX12_gripOf_70 rfl ⟨h, rfl, rfl, hE⟩
  by_cases c6 : ¬ v3 = (-1)
  · have hf := zif_t hf c6
    refine z_icmp_ne_t (tgt := 59) dX12_gripOf_52 (by decide) c6 ?_
    refine z_aload_n dX12_gripOf_59 rfl ?_
    refine z_getC dX12_gripOf_60 tF_12_49 hE dr_41 rfl rfl ?_
    refine z_iconst (v := 2) dX12_gripOf_63 (by decide) ?_
    refine z_iload_n dX12_gripOf_64 rfl ?_
    refine z_imul dX12_gripOf_65 ?_
    obtain ⟨b12, hf⟩ := zchk hf
    refine z_ialoadL dX12_gripOf_66 hE dr_50 b12 rfl ?_
    exact zW.sub (hJ7 (S.1 50 (2 * v3).toNatClampNeg) _ hE hf) [0, 1, 2, 3, 4] rfl rfl rfl rfl
  · have hf := zif_f hf c6
    refine z_icmp_ne_f (tgt := 59) dX12_gripOf_52 (by decide) c6 ?_
    refine z_iconst (v := 0) dX12_gripOf_55 (by decide) ?_
    refine z_goto (tgt := 67) dX12_gripOf_56 (by decide) ?_
    exact zW.sub (hJ7 0 _ hE hf) [0, 1, 2, 3, 4] rfl rfl rfl rfl
def f_X12_grip (v1 : Int32) (v2 : Int32) (v3 : Int32) (S : zS) : Option (Int32 × zS) :=
zl (sV S 41 0 0) fun S1 =>
zb (f_X12_isHand v1 S1) fun r3 S2 =>
if r3 = 0 then
some ((-1), S2)
else
zb (f_X12_isTool v2 S2) fun r7 S6 =>
if r7 = 0 then
some ((-1), S6)
else
zb (f_X12_isJar v3 S6) fun r11 S10 =>
if r11 = 0 then
some ((-1), S10)
else
zb (f_X12_gripOf 54 v1 v2 v3 S10) fun r15 S14 =>
some (r15, S14)
theorem w_X12_grip {L : Nat} {xs : Nat → Int32} {fm : Bool} {h0 : Nat → va_E} {t : Nat × Nat × Nat} (hn1 : 64 ≤ t.1) (hn2 : t.1 ≤ 1000000) (d : Nat) {h : Nat → va_E} {S : zS} (hE : zE zDr h0 S (h, t)) {v1 : Int32} {v2 : Int32} {v3 : Int32} {R : Int32 × zS} (hf : f_X12_grip v1 v2 v3 S = some R) : zC (ia_P0 L xs fm) (d + 112) 12047 [.ref 41, .int v1, .int v2, .int v3] (h, t) (zQi zDr h0 t R) := by
  refine zC_of mt_12047 nn_12047 (Nat.le_of_ble_eq_true rfl) ?_
  refine zW_lv (lv' := [(0, .ref 41), (1, .int v1), (2, .int v2), (3, .int v3)]) rfl ?_
  unfold f_X12_grip at hf
  refine z_aload_n dX12_grip_0 rfl ?_
  refine z_iconst (v := 0) dX12_grip_1 (by decide) ?_
  obtain ⟨S1, eS1, hf⟩ := zl_some hf
  refine z_putI dX12_grip_2 tF_12_93 hE dr_41 rfl rfl rfl rfl (fun h hE => ?_)
  rw [← eS1] at hE
  refine z_aload_n dX12_grip_5 rfl ?_
  refine z_iload_n dX12_grip_6 rfl ?_
  obtain ⟨r3, S2, k4, hf⟩ := zb_some hf
  refine z_callVi dX12_grip_7 tM_12_325 mt_12043 (Nat.le_of_ble_eq_true rfl) rfl rfl (z_recv hE dr_41 rfl) rfl (ia_oks_le hn1 rfl) (Nat.le_of_ble_eq_true rfl) (w_X12_isHand hn1 hn2 (d + 110) hE k4) (fun h hE => ?_)
  by_cases c5 : r3 = 0
  · have hf := zif_t hf c5
    refine z_if_eq_t (tgt := 43) dX12_grip_10 (by decide) c5 ?_
    refine z_iconst (v := (-1)) dX12_grip_43 (by decide) ?_
    have e_ := Option.some.inj hf
    subst e_
    exact z_ireturn dX12_grip_44 rfl ⟨h, rfl, rfl, hE⟩
  · have hf := zif_f hf c5
    refine z_if_eq_f (tgt := 43) dX12_grip_10 (by decide) c5 ?_
    refine z_aload_n dX12_grip_13 rfl ?_
    refine z_iload_n dX12_grip_14 rfl ?_
    obtain ⟨r7, S6, k8, hf⟩ := zb_some hf
    refine z_callVi dX12_grip_15 tM_12_330 mt_12048 (Nat.le_of_ble_eq_true rfl) rfl rfl (z_recv hE dr_41 rfl) rfl (ia_oks_le hn1 rfl) (Nat.le_of_ble_eq_true rfl) (w_X12_isTool hn1 hn2 (d + 109) hE k8) (fun h hE => ?_)
    by_cases c9 : r7 = 0
    · have hf := zif_t hf c9
      refine z_if_eq_t (tgt := 43) dX12_grip_18 (by decide) c9 ?_
      refine z_iconst (v := (-1)) dX12_grip_43 (by decide) ?_
      have e_ := Option.some.inj hf
      subst e_
      exact z_ireturn dX12_grip_44 rfl ⟨h, rfl, rfl, hE⟩
    · have hf := zif_f hf c9
      refine z_if_eq_f (tgt := 43) dX12_grip_18 (by decide) c9 ?_
      refine z_aload_n dX12_grip_21 rfl ?_
      refine z_iload_n dX12_grip_22 rfl ?_
      obtain ⟨r11, S10, k12, hf⟩ := zb_some hf
      refine z_callVi dX12_grip_23 tM_12_316 mt_12040 (Nat.le_of_ble_eq_true rfl) rfl rfl (z_recv hE dr_41 rfl) rfl (ia_oks_le hn1 rfl) (Nat.le_of_ble_eq_true rfl) (w_X12_isJar hn1 hn2 (d + 110) hE k12) (fun h hE => ?_)
      by_cases c13 : r11 = 0
      · have hf := zif_t hf c13
        refine z_if_eq_t (tgt := 43) dX12_grip_26 (by decide) c13 ?_
        refine z_iconst (v := (-1)) dX12_grip_43 (by decide) ?_
        have e_ := Option.some.inj hf
        subst e_
        exact z_ireturn dX12_grip_44 rfl ⟨h, rfl, rfl, hE⟩
      · have hf := zif_f hf c13
        refine z_if_eq_f (tgt := 43) dX12_grip_26 (by decide) c13 ?_
        refine z_aload_n dX12_grip_29 rfl ?_
        refine z_aload_n dX12_grip_30 rfl ?_
        refine z_getC dX12_grip_31 tF_12_61 hE dr_41 rfl rfl ?_
        refine z_iload_n dX12_grip_34 rfl ?_
        refine z_iload_n dX12_grip_35 rfl ?_
        refine z_iload_n dX12_grip_36 rfl ?_
        obtain ⟨r15, S14, k16, hf⟩ := zb_some hf
        refine z_callVi dX12_grip_37 tM_12_333 mt_12049 (Nat.le_of_ble_eq_true rfl) rfl rfl (z_recv hE dr_41 rfl) rfl (ia_oks_le hn1 rfl) (Nat.le_of_ble_eq_true rfl) (w_X12_gripOf hn1 hn2 (d + 0) rw_54 hE k16) (fun h hE => ?_)
        refine z_goto (tgt := 44) dX12_grip_40 (by decide) ?_
        have e_ := Option.some.inj hf
        subst e_
        exact z_ireturn dX12_grip_44 rfl ⟨h, rfl, rfl, hE⟩
def f_X12_lacks (v1 : Int32) (v2 : Int32) (v3 : Int32) (S : zS) : Option (Int32 × zS) :=
zl (sV S 41 0 0) fun S1 =>
zb (f_X12_isHand v1 S1) fun r3 S2 =>
if r3 = 0 then
some ((-1), S2)
else
zb (f_X12_isTool v2 S2) fun r7 S6 =>
if r7 = 0 then
some ((-1), S6)
else
zb (f_X12_isJar v3 S6) fun r11 S10 =>
if r11 = 0 then
some ((-1), S10)
else
if ia_in ((7 * v3) + 5) 66 = true then
if (S10.1 54 ((7 * v3) + 5).toNatClampNeg) = 1 then
some ((-1), S10)
else
if ia_in ((7 * v3) + 6) 66 = true then
if ¬ (S10.1 54 ((7 * v3) + 6).toNatClampNeg) = 1 then
zb (f_X12_holdOf 54 v3 S10) fun r19 S18 =>
zb (f_X12_gripOf 54 v1 v2 v3 S18) fun r22 S21 =>
some (if 0 < (r19 - r22) then (r19 - r22) else 0, S21)
else
some ((-1), S10)
else none
else none
theorem w_X12_lacks {L : Nat} {xs : Nat → Int32} {fm : Bool} {h0 : Nat → va_E} {t : Nat × Nat × Nat} (hn1 : 64 ≤ t.1) (hn2 : t.1 ≤ 1000000) (d : Nat) {h : Nat → va_E} {S : zS} (hE : zE zDr h0 S (h, t)) {v1 : Int32} {v2 : Int32} {v3 : Int32} {R : Int32 × zS} (hf : f_X12_lacks v1 v2 v3 S = some R) : zC (ia_P0 L xs fm) (d + 112) 12051 [.ref 41, .int v1, .int v2, .int v3] (h, t) (zQi zDr h0 t R) := by
  refine zC_of mt_12051 nn_12051 (Nat.le_of_ble_eq_true rfl) ?_
  refine zW_lv (lv' := [(0, .ref 41), (1, .int v1), (2, .int v2), (3, .int v3)]) rfl ?_
  unfold f_X12_lacks at hf
  refine z_aload_n dX12_lacks_0 rfl ?_
  refine z_iconst (v := 0) dX12_lacks_1 (by decide) ?_
  obtain ⟨S1, eS1, hf⟩ := zl_some hf
  refine z_putI dX12_lacks_2 tF_12_93 hE dr_41 rfl rfl rfl rfl (fun h hE => ?_)
  rw [← eS1] at hE
  refine z_aload_n dX12_lacks_5 rfl ?_
  refine z_iload_n dX12_lacks_6 rfl ?_
  obtain ⟨r3, S2, k4, hf⟩ := zb_some hf
  refine z_callVi dX12_lacks_7 tM_12_325 mt_12043 (Nat.le_of_ble_eq_true rfl) rfl rfl (z_recv hE dr_41 rfl) rfl (ia_oks_le hn1 rfl) (Nat.le_of_ble_eq_true rfl) (w_X12_isHand hn1 hn2 (d + 110) hE k4) (fun h hE => ?_)
  by_cases c5 : r3 = 0
  · have hf := zif_t hf c5
    refine z_if_eq_t (tgt := 60) dX12_lacks_10 (by decide) c5 ?_
    refine z_iconst (v := (-1)) dX12_lacks_60 (by decide) ?_
    have e_ := Option.some.inj hf
    subst e_
    exact z_ireturn dX12_lacks_61 rfl ⟨h, rfl, rfl, hE⟩
  · have hf := zif_f hf c5
    refine z_if_eq_f (tgt := 60) dX12_lacks_10 (by decide) c5 ?_
    refine z_aload_n dX12_lacks_13 rfl ?_
    refine z_iload_n dX12_lacks_14 rfl ?_
    obtain ⟨r7, S6, k8, hf⟩ := zb_some hf
    refine z_callVi dX12_lacks_15 tM_12_330 mt_12048 (Nat.le_of_ble_eq_true rfl) rfl rfl (z_recv hE dr_41 rfl) rfl (ia_oks_le hn1 rfl) (Nat.le_of_ble_eq_true rfl) (w_X12_isTool hn1 hn2 (d + 109) hE k8) (fun h hE => ?_)
    by_cases c9 : r7 = 0
    · have hf := zif_t hf c9
      refine z_if_eq_t (tgt := 60) dX12_lacks_18 (by decide) c9 ?_
      refine z_iconst (v := (-1)) dX12_lacks_60 (by decide) ?_
      have e_ := Option.some.inj hf
      subst e_
      exact z_ireturn dX12_lacks_61 rfl ⟨h, rfl, rfl, hE⟩
    · have hf := zif_f hf c9
      refine z_if_eq_f (tgt := 60) dX12_lacks_18 (by decide) c9 ?_
      refine z_aload_n dX12_lacks_21 rfl ?_
      refine z_iload_n dX12_lacks_22 rfl ?_
      obtain ⟨r11, S10, k12, hf⟩ := zb_some hf
      refine z_callVi dX12_lacks_23 tM_12_316 mt_12040 (Nat.le_of_ble_eq_true rfl) rfl rfl (z_recv hE dr_41 rfl) rfl (ia_oks_le hn1 rfl) (Nat.le_of_ble_eq_true rfl) (w_X12_isJar hn1 hn2 (d + 110) hE k12) (fun h hE => ?_)
      by_cases c13 : r11 = 0
      · have hf := zif_t hf c13
        refine z_if_eq_t (tgt := 60) dX12_lacks_26 (by decide) c13 ?_
        refine z_iconst (v := (-1)) dX12_lacks_60 (by decide) ?_
        have e_ := Option.some.inj hf
        subst e_
        exact z_ireturn dX12_lacks_61 rfl ⟨h, rfl, rfl, hE⟩
      · have hf := zif_f hf c13
        refine z_if_eq_f (tgt := 60) dX12_lacks_26 (by decide) c13 ?_
        refine z_aload_n dX12_lacks_29 rfl ?_
        refine z_getC dX12_lacks_30 tF_12_61 hE dr_41 rfl rfl ?_
        refine z_bipush (v := 7) dX12_lacks_33 (by decide) ?_
        refine z_iload_n dX12_lacks_35 rfl ?_
        refine z_imul dX12_lacks_36 ?_
        refine z_iconst (v := 5) dX12_lacks_37 (by decide) ?_
        refine z_iadd dX12_lacks_38 ?_
        obtain ⟨b14, hf⟩ := zchk hf
        refine z_ialoadL dX12_lacks_39 hE dr_54 b14 rfl ?_
        refine z_iconst (v := 1) dX12_lacks_40 (by decide) ?_
        by_cases c15 : (S10.1 54 ((7 * v3) + 5).toNatClampNeg) = 1
        · have hf := zif_t hf c15
          refine z_icmp_eq_t (tgt := 60) dX12_lacks_41 (by decide) c15 ?_
          refine z_iconst (v := (-1)) dX12_lacks_60 (by decide) ?_
          have e_ := Option.some.inj hf
          subst e_
          exact z_ireturn dX12_lacks_61 rfl ⟨h, rfl, rfl, hE⟩
        · have hf := zif_f hf c15
          refine z_icmp_eq_f (tgt := 60) dX12_lacks_41 (by decide) c15 ?_
          refine z_aload_n dX12_lacks_44 rfl ?_
          refine z_getC dX12_lacks_45 tF_12_61 hE dr_41 rfl rfl ?_
          refine z_bipush (v := 7) dX12_lacks_48 (by decide) ?_
          refine z_iload_n dX12_lacks_50 rfl ?_
          refine z_imul dX12_lacks_51 ?_
          refine z_bipush (v := 6) dX12_lacks_52 (by decide) ?_
          refine z_iadd dX12_lacks_54 ?_
          obtain ⟨b16, hf⟩ := zchk hf
          refine z_ialoadL dX12_lacks_55 hE dr_54 b16 rfl ?_
          refine z_iconst (v := 1) dX12_lacks_56 (by decide) ?_
          by_cases c17 : ¬ (S10.1 54 ((7 * v3) + 6).toNatClampNeg) = 1
          · have hf := zif_t hf c17
            refine z_icmp_ne_t (tgt := 62) dX12_lacks_57 (by decide) c17 ?_
            refine z_iconst (v := 0) dX12_lacks_62 (by decide) ?_
            refine z_aload_n dX12_lacks_63 rfl ?_
            refine z_getC dX12_lacks_64 tF_12_61 hE dr_41 rfl rfl ?_
            refine z_iload_n dX12_lacks_67 rfl ?_
            obtain ⟨r19, S18, k20, hf⟩ := zb_some hf
            refine z_callSi dX12_lacks_68 tM_12_321 (by decide) mt_12041 (Nat.le_of_ble_eq_true rfl) rfl rfl (ia_oks_le hn1 rfl) (Nat.le_of_ble_eq_true rfl) (w_X12_holdOf hn1 hn2 (d + 110) rw_54 hE k20) (fun h hE => ?_)
            refine z_aload_n dX12_lacks_71 rfl ?_
            refine z_aload_n dX12_lacks_72 rfl ?_
            refine z_getC dX12_lacks_73 tF_12_61 hE dr_41 rfl rfl ?_
            refine z_iload_n dX12_lacks_76 rfl ?_
            refine z_iload_n dX12_lacks_77 rfl ?_
            refine z_iload_n dX12_lacks_78 rfl ?_
            obtain ⟨r22, S21, k23, hf⟩ := zb_some hf
            refine z_callVi dX12_lacks_79 tM_12_333 mt_12049 (Nat.le_of_ble_eq_true rfl) rfl rfl (z_recv hE dr_41 rfl) rfl (ia_oks_le hn1 rfl) (Nat.le_of_ble_eq_true rfl) (w_X12_gripOf hn1 hn2 (d + 0) rw_54 hE k23) (fun h hE => ?_)
            refine z_isub dX12_lacks_82 ?_
            refine z_mmax dX12_lacks_83 tM_12_308 (Nat.le_of_ble_eq_true rfl) ?_
            have e_ := Option.some.inj hf
            subst e_
            exact z_ireturn dX12_lacks_86 rfl ⟨h, rfl, rfl, hE⟩
          · have hf := zif_f hf c17
            refine z_icmp_ne_f (tgt := 62) dX12_lacks_57 (by decide) c17 ?_
            refine z_iconst (v := (-1)) dX12_lacks_60 (by decide) ?_
            have e_ := Option.some.inj hf
            subst e_
            exact z_ireturn dX12_lacks_61 rfl ⟨h, rfl, rfl, hE⟩
def f_X12_isDone (w : Nat) (S : zS) : Option (Int32 × zS) :=
if ia_in ((7 * (S.1 w 64)) + 5) 66 = true then
zl (fun (u4 : Unit) =>
some (1, S)) fun J3 =>
if (S.1 w ((7 * (S.1 w 64)) + 5).toNatClampNeg) = 1 then
J3 ()
else
if ia_in ((7 * (S.1 w 64)) + 6) 66 = true then
if ¬ (S.1 w ((7 * (S.1 w 64)) + 6).toNatClampNeg) = 1 then
some (0, S)
else
J3 ()
else none
else none
theorem w_X12_isDone {L : Nat} {xs : Nat → Int32} {fm : Bool} {h0 : Nat → va_E} {t : Nat × Nat × Nat} (hn1 : 64 ≤ t.1) (hn2 : t.1 ≤ 1000000) (d : Nat) {w : Nat} (ho_w : zRw w) {h : Nat → va_E} {S : zS} (hE : zE zDr h0 S (h, t)) {R : Int32 × zS} (hf : f_X12_isDone w S = some R) : zC (ia_P0 L xs fm) (d + 1) 12053 [.ref w] (h, t) (zQi zDr h0 t R) := by
  refine zC_of mt_12053 nn_12053 (Nat.le_of_ble_eq_true rfl) ?_
  refine zW_lv (lv' := [(0, .ref w)]) rfl ?_
  unfold f_X12_isDone at hf
  refine z_aload_n dX12_isDone_0 rfl ?_
  refine z_bipush (v := 7) dX12_isDone_1 (by decide) ?_
  refine z_aload_n dX12_isDone_3 rfl ?_
  refine z_bipush (v := 64) dX12_isDone_4 (by decide) ?_
  refine z_ialoadL (i := 64) dX12_isDone_6 hE ho_w.1 (by decide) (by decide) ?_
  refine z_imul dX12_isDone_7 ?_
  refine z_iconst (v := 5) dX12_isDone_8 (by decide) ?_
  refine z_iadd dX12_isDone_9 ?_
  obtain ⟨b1, hf⟩ := zchk hf
  refine z_ialoadL dX12_isDone_10 hE ho_w.1 b1 rfl ?_
  refine z_iconst (v := 1) dX12_isDone_11 (by decide) ?_
  obtain ⟨J3, eJ3, hf⟩ := zl_some hf
  have hJ3 : ∀ (u4 : Unit) (h : Nat → va_E), zE zDr h0 S (h, t) → J3 u4 = some R → zW (ia_P0 L xs fm) ia_nx (d + 0) 12 false cX12_isDone 1 (some .boolean) 31 [(0, .ref w)] [] (h, t) (zQi zDr h0 t R) := by
    intro u4 h hE hf
    rw [eJ3] at hf
    refine z_iconst (v := 1) dX12_isDone_31 (by decide) ?_
    refine z_goto (tgt := 36) dX12_isDone_32 (by decide) ?_
    have e_ := Option.some.inj hf
    subst e_
    exact z_zreturn dX12_isDone_36 rfl (by decide) ⟨h, rfl, rfl, hE⟩
  by_cases c2 : (S.1 w ((7 * (S.1 w 64)) + 5).toNatClampNeg) = 1
  · have hf := zif_t hf c2
    refine z_icmp_eq_t (tgt := 31) dX12_isDone_12 (by decide) c2 ?_
    exact zW.sub (hJ3 () _ hE hf) [0] rfl rfl rfl rfl
  · have hf := zif_f hf c2
    refine z_icmp_eq_f (tgt := 31) dX12_isDone_12 (by decide) c2 ?_
    refine z_aload_n dX12_isDone_15 rfl ?_
    refine z_bipush (v := 7) dX12_isDone_16 (by decide) ?_
    refine z_aload_n dX12_isDone_18 rfl ?_
    refine z_bipush (v := 64) dX12_isDone_19 (by decide) ?_
    refine z_ialoadL (i := 64) dX12_isDone_21 hE ho_w.1 (by decide) (by decide) ?_
    refine z_imul dX12_isDone_22 ?_
    refine z_bipush (v := 6) dX12_isDone_23 (by decide) ?_
    refine z_iadd dX12_isDone_25 ?_
    obtain ⟨b5, hf⟩ := zchk hf
    refine z_ialoadL dX12_isDone_26 hE ho_w.1 b5 rfl ?_
    refine z_iconst (v := 1) dX12_isDone_27 (by decide) ?_
    by_cases c6 : ¬ (S.1 w ((7 * (S.1 w 64)) + 6).toNatClampNeg) = 1
    · have hf := zif_t hf c6
      refine z_icmp_ne_t (tgt := 35) dX12_isDone_28 (by decide) c6 ?_
      refine z_iconst (v := 0) dX12_isDone_35 (by decide) ?_
      have e_ := Option.some.inj hf
      subst e_
      exact z_zreturn dX12_isDone_36 rfl (by decide) ⟨h, rfl, rfl, hE⟩
    · have hf := zif_f hf c6
      refine z_icmp_ne_f (tgt := 35) dX12_isDone_28 (by decide) c6 ?_
      exact zW.sub (hJ3 () _ hE hf) [0] rfl rfl rfl rfl
def f_X12_remember_L51 (ex : Int32 → zS → Option (Unit × zS))  : Nat → Int32 → zS → Option (Unit × zS)
  | 0, _, _ => none
  | k + 1, x1, S =>
    if 66 ≤ x1 then
    ex x1 S
    else
    if ia_in x1 66 = true then
    if ia_in ((66 * (S.1 41 39)) + x1) 2640 = true then
    zl (sV S 56 (((66 * (S.1 41 39)) + x1).toNatClampNeg) (S.1 54 x1.toNatClampNeg)) fun S7 =>
    zl (x1 + 1) fun (y8 : Int32) =>
    f_X12_remember_L51 ex k y8 S7
    else none
    else none
def f_X12_remember_L11 (ex : Int32 → zS → Option (Unit × zS))  : Nat → Int32 → zS → Option (Unit × zS)
  | 0, _, _ => none
  | k + 1, x1, S =>
    if 2574 ≤ x1 then
    ex x1 S
    else
    if ia_in (x1 + 66) 2640 = true then
    if ia_in x1 2640 = true then
    zl (sV S 56 (x1.toNatClampNeg) (S.1 56 (x1 + 66).toNatClampNeg)) fun S15 =>
    zl (x1 + 1) fun (y16 : Int32) =>
    f_X12_remember_L11 ex k y16 S15
    else none
    else none
def f_X12_remember  (S : zS) : Option (Unit × zS) :=
zl (fun (S3 : zS) =>
f_X12_remember_L51 (fun (q10 : Int32) (S9 : zS) =>
zl (sV S9 41 39 ((S9.1 41 39) + 1)) fun S11 =>
some ((), S11))  zN 0 S3) fun J2 =>
if ¬ (S.1 41 39) = 40 then
J2 S
else
f_X12_remember_L11 (fun (q18 : Int32) (S17 : zS) =>
zl (sV S17 41 39 ((S17.1 41 39) - 1)) fun S19 =>
J2 S19)  zN 0 S
theorem w_X12_remember_L51 {L : Nat} {xs : Nat → Int32} {fm : Bool} {h0 : Nat → va_E} {t : Nat × Nat × Nat} (hn1 : 64 ≤ t.1) (hn2 : t.1 ≤ 1000000) (d : Nat) {ex : Int32 → zS → Option (Unit × zS)} {R : Unit × zS} (hex : ∀ (x1 : Int32) (S : zS) (h : Nat → va_E), zE zDr h0 S (h, t) → ex x1 S = some R → zW (ia_P0 L xs fm) ia_nx (d + 0) 12 false cX12_remember 2 (none) 83 [(0, .ref 41), (1, .int x1)] [] (h, t) (zQv zDr h0 t R)) : ∀ (k : Nat) (x1 : Int32) (S : zS) (h : Nat → va_E), zE zDr h0 S (h, t) → f_X12_remember_L51 ex  k x1 S = some R → zW (ia_P0 L xs fm) ia_nx (d + 0) 12 false cX12_remember 2 (none) 51 [(0, .ref 41), (1, .int x1)] [] (h, t) (zQv zDr h0 t R) := by
  intro k
  induction k with
  | zero => intro x1 S h hE hf; cases hf
  | succ k ih =>
    intro x1 S h hE hf
    unfold f_X12_remember_L51 at hf
    refine z_iload_n dX12_remember_51 rfl ?_
    refine z_bipush (v := 66) dX12_remember_52 (by decide) ?_
    by_cases c4 : 66 ≤ x1
    · have hf := zif_t hf c4
      refine z_icmp_ge_t (tgt := 83) dX12_remember_54 (by decide) c4 ?_
      exact zW.sub (hex x1 S _ hE hf) [0, 1] rfl rfl rfl rfl
    · have hf := zif_f hf c4
      refine z_icmp_ge_f (tgt := 83) dX12_remember_54 (by decide) c4 ?_
      refine z_aload_n dX12_remember_57 rfl ?_
      refine z_getC dX12_remember_58 tF_12_71 hE dr_41 rfl rfl ?_
      refine z_bipush (v := 66) dX12_remember_61 (by decide) ?_
      refine z_aload_n dX12_remember_63 rfl ?_
      refine z_getI dX12_remember_64 tF_12_297 hE dr_41 rfl rfl ?_
      refine z_imul dX12_remember_67 ?_
      refine z_iload_n dX12_remember_68 rfl ?_
      refine z_iadd dX12_remember_69 ?_
      refine z_aload_n dX12_remember_70 rfl ?_
      refine z_getC dX12_remember_71 tF_12_61 hE dr_41 rfl rfl ?_
      refine z_iload_n dX12_remember_74 rfl ?_
      obtain ⟨b5, hf⟩ := zchk hf
      refine z_ialoadL dX12_remember_75 hE dr_54 b5 rfl ?_
      obtain ⟨b6, hf⟩ := zchk hf
      obtain ⟨S7, eS7, hf⟩ := zl_some hf
      refine z_iastoreL (i := ((66 * (S.1 41 39)) + x1).toNatClampNeg) dX12_remember_76 hE dr_56 b6 rfl (fun h hE => ?_)
      rw [← eS7] at hE
      obtain ⟨y8, ey8, hf⟩ := zl_some hf
      refine z_iincY (v := 1) (y := y8) (lv' := [(1, .int y8), (0, .ref 41)]) dX12_remember_77 rfl (by decide) (by decide) ey8 rfl ?_
      refine z_goto (tgt := 51) dX12_remember_80 (by decide) ?_
      exact zW.sub (ih y8 S7 _ hE hf) [1, 0] rfl rfl rfl rfl
theorem w_X12_remember_L11 {L : Nat} {xs : Nat → Int32} {fm : Bool} {h0 : Nat → va_E} {t : Nat × Nat × Nat} (hn1 : 64 ≤ t.1) (hn2 : t.1 ≤ 1000000) (d : Nat) {ex : Int32 → zS → Option (Unit × zS)} {R : Unit × zS} (hex : ∀ (x1 : Int32) (S : zS) (h : Nat → va_E), zE zDr h0 S (h, t) → ex x1 S = some R → zW (ia_P0 L xs fm) ia_nx (d + 0) 12 false cX12_remember 2 (none) 39 [(0, .ref 41), (1, .int x1)] [] (h, t) (zQv zDr h0 t R)) : ∀ (k : Nat) (x1 : Int32) (S : zS) (h : Nat → va_E), zE zDr h0 S (h, t) → f_X12_remember_L11 ex  k x1 S = some R → zW (ia_P0 L xs fm) ia_nx (d + 0) 12 false cX12_remember 2 (none) 11 [(0, .ref 41), (1, .int x1)] [] (h, t) (zQv zDr h0 t R) := by
  intro k
  induction k with
  | zero => intro x1 S h hE hf; cases hf
  | succ k ih =>
    intro x1 S h hE hf
    unfold f_X12_remember_L11 at hf
    refine z_iload_n dX12_remember_11 rfl ?_
    refine z_sipush (v := 2574) dX12_remember_12 (by decide) ?_
    by_cases c12 : 2574 ≤ x1
    · have hf := zif_t hf c12
      refine z_icmp_ge_t (tgt := 39) dX12_remember_15 (by decide) c12 ?_
      exact zW.sub (hex x1 S _ hE hf) [0, 1] rfl rfl rfl rfl
    · have hf := zif_f hf c12
      refine z_icmp_ge_f (tgt := 39) dX12_remember_15 (by decide) c12 ?_
      refine z_aload_n dX12_remember_18 rfl ?_
      refine z_getC dX12_remember_19 tF_12_71 hE dr_41 rfl rfl ?_
      refine z_iload_n dX12_remember_22 rfl ?_
      refine z_aload_n dX12_remember_23 rfl ?_
      refine z_getC dX12_remember_24 tF_12_71 hE dr_41 rfl rfl ?_
      refine z_iload_n dX12_remember_27 rfl ?_
      refine z_bipush (v := 66) dX12_remember_28 (by decide) ?_
      refine z_iadd dX12_remember_30 ?_
      obtain ⟨b13, hf⟩ := zchk hf
      refine z_ialoadL dX12_remember_31 hE dr_56 b13 rfl ?_
      obtain ⟨b14, hf⟩ := zchk hf
      obtain ⟨S15, eS15, hf⟩ := zl_some hf
      refine z_iastoreL (i := x1.toNatClampNeg) dX12_remember_32 hE dr_56 b14 rfl (fun h hE => ?_)
      rw [← eS15] at hE
      obtain ⟨y16, ey16, hf⟩ := zl_some hf
      refine z_iincY (v := 1) (y := y16) (lv' := [(1, .int y16), (0, .ref 41)]) dX12_remember_33 rfl (by decide) (by decide) ey16 rfl ?_
      refine z_goto (tgt := 11) dX12_remember_36 (by decide) ?_
      exact zW.sub (ih y16 S15 _ hE hf) [1, 0] rfl rfl rfl rfl
theorem w_X12_remember {L : Nat} {xs : Nat → Int32} {fm : Bool} {h0 : Nat → va_E} {t : Nat × Nat × Nat} (hn1 : 64 ≤ t.1) (hn2 : t.1 ≤ 1000000) (d : Nat) {h : Nat → va_E} {S : zS} (hE : zE zDr h0 S (h, t)) {R : Unit × zS} (hf : f_X12_remember  S = some R) : zC (ia_P0 L xs fm) (d + 1) 12054 [.ref 41] (h, t) (zQv zDr h0 t R) := by
  refine zC_of mt_12054 nn_12054 (Nat.le_of_ble_eq_true rfl) ?_
  refine zW_lv (lv' := [(0, .ref 41)]) rfl ?_
  unfold f_X12_remember at hf
  refine z_aload_n dX12_remember_0 rfl ?_
  refine z_getI dX12_remember_1 tF_12_297 hE dr_41 rfl rfl ?_
  refine z_bipush (v := 40) dX12_remember_4 (by decide) ?_
  obtain ⟨J2, eJ2, hf⟩ := zl_some hf
  have hJ2 : ∀ (S3 : zS) (h : Nat → va_E), zE zDr h0 S3 (h, t) → J2 S3 = some R → zW (ia_P0 L xs fm) ia_nx (d + 0) 12 false cX12_remember 2 (none) 49 [(0, .ref 41)] [] (h, t) (zQv zDr h0 t R) := by
    intro S3 h hE hf
    rw [eJ2] at hf
    refine z_iconst (v := 0) dX12_remember_49 (by decide) ?_
    refine z_istore_n (lv' := [(1, .int 0), (0, .ref 41)]) dX12_remember_50 (by decide) rfl ?_
    refine zW.sub (w_X12_remember_L51 hn1 hn2 d (fun q10 S9 h hE hf => ?_) zN 0 S3 h hE hf) [1, 0] rfl rfl rfl rfl
    try dsimp only at hf
    refine z_aload_n dX12_remember_83 rfl ?_
    refine z_dup dX12_remember_84 rfl ?_
    refine z_getI dX12_remember_85 tF_12_297 hE dr_41 rfl rfl ?_
    refine z_iconst (v := 1) dX12_remember_88 (by decide) ?_
    refine z_iadd dX12_remember_89 ?_
    obtain ⟨S11, eS11, hf⟩ := zl_some hf
    refine z_putI dX12_remember_90 tF_12_297 hE dr_41 rfl rfl rfl rfl (fun h hE => ?_)
    rw [← eS11] at hE
    have e_ := Option.some.inj hf
    subst e_
    exact z_vreturn dX12_remember_93 rfl ⟨h, rfl, rfl, hE⟩
  by_cases c1 : ¬ (S.1 41 39) = 40
  · have hf := zif_t hf c1
    refine z_icmp_ne_t (tgt := 49) dX12_remember_6 (by decide) c1 ?_
    exact zW.sub (hJ2 S _ hE hf) [0] rfl rfl rfl rfl
  · have hf := zif_f hf c1
    refine z_icmp_ne_f (tgt := 49) dX12_remember_6 (by decide) c1 ?_
    refine z_iconst (v := 0) dX12_remember_9 (by decide) ?_
    refine z_istore_n (lv' := [(1, .int 0), (0, .ref 41)]) dX12_remember_10 (by decide) rfl ?_
    refine zW.sub (w_X12_remember_L11 hn1 hn2 d (fun q18 S17 h hE hf => ?_) zN 0 S h hE hf) [1, 0] rfl rfl rfl rfl
    try dsimp only at hf
    refine z_aload_n dX12_remember_39 rfl ?_
    refine z_dup dX12_remember_40 rfl ?_
    refine z_getI dX12_remember_41 tF_12_297 hE dr_41 rfl rfl ?_
    refine z_iconst (v := 1) dX12_remember_44 (by decide) ?_
    refine z_isub dX12_remember_45 ?_
    obtain ⟨S19, eS19, hf⟩ := zl_some hf
    refine z_putI dX12_remember_46 tF_12_297 hE dr_41 rfl rfl rfl rfl (fun h hE => ?_)
    rw [← eS19] at hE
    exact zW.sub (hJ2 S19 _ hE hf) [0] rfl rfl rfl rfl
def f_X12_turns (w : Nat) (v2 : Int32) (v3 : Int32) (v4 : Int32) (v5 : Int32) (S : zS) : Option (Unit × zS) :=
zl (S.1 w 64) fun (y1 : Int32) =>
zl (7 * y1) fun (y2 : Int32) =>
zb (f_X12_gripOf w v2 v3 y1 S) fun r4 S3 =>
zl (if 0 < (r4 - v5) then (r4 - v5) else 0) fun (y6 : Int32) =>
if ia_in ((6 * y1) + 3) 24 = true then
zl (fun (S10 : zS) =>
if ia_in (28 + (2 * v2)) 66 = true then
if ia_in ((5 * v2) + 3) 30 = true then
if ia_in (28 + (2 * v2)) 66 = true then
zl (sV S10 w ((28 + (2 * v2)).toNatClampNeg) (if 0 < ((S10.1 w (28 + (2 * v2)).toNatClampNeg) - (S10.1 48 ((5 * v2) + 3).toNatClampNeg)) then ((S10.1 w (28 + (2 * v2)).toNatClampNeg) - (S10.1 48 ((5 * v2) + 3).toNatClampNeg)) else 0)) fun S14 =>
zl (sV S14 w 65 ((S14.1 w 65) + 1)) fun S15 =>
some ((), S15)
else none
else none
else none) fun J9 =>
if v4 = (S3.1 46 ((6 * y1) + 3).toNatClampNeg) then
zb (f_X12_holdOf w y1 S3) fun r17 S16 =>
if y6 < r17 then
if ia_in (y2 + 1) 66 = true then
zl (if (y6 / 10) < (S16.1 w (y2 + 1).toNatClampNeg) then (y6 / 10) else (S16.1 w (y2 + 1).toNatClampNeg)) fun (y21 : Int32) =>
if ia_in (y2 + 1) 66 = true then
if ia_in (y2 + 1) 66 = true then
zl (sV S16 w ((y2 + 1).toNatClampNeg) ((S16.1 w (y2 + 1).toNatClampNeg) - y21)) fun S24 =>
if ia_in ((40 + (4 * v2)) + y1) 66 = true then
if ia_in ((40 + (4 * v2)) + y1) 66 = true then
zl (sV S24 w (((40 + (4 * v2)) + y1).toNatClampNeg) ((S24.1 w ((40 + (4 * v2)) + y1).toNatClampNeg) + y21)) fun S27 =>
J9 S27
else none
else none
else none
else none
else none
else
if ia_in (y2 + 5) 66 = true then
zl (sV S16 w ((y2 + 5).toNatClampNeg) 1) fun S29 =>
J9 S29
else none
else
if ia_in (y2 + 1) 66 = true then
if ia_in (y2 + 1) 66 = true then
zl (sV S3 w ((y2 + 1).toNatClampNeg) (if ((S3.1 w (y2 + 1).toNatClampNeg) + 2) < 99 then ((S3.1 w (y2 + 1).toNatClampNeg) + 2) else 99)) fun S32 =>
J9 S32
else none
else none
else none
theorem w_X12_turns {L : Nat} {xs : Nat → Int32} {fm : Bool} {h0 : Nat → va_E} {t : Nat × Nat × Nat} (hn1 : 64 ≤ t.1) (hn2 : t.1 ≤ 1000000) (d : Nat) {w : Nat} (ho_w : zRw w) {h : Nat → va_E} {S : zS} (hE : zE zDr h0 S (h, t)) {v2 : Int32} {v3 : Int32} {v4 : Int32} {v5 : Int32} {R : Unit × zS} (hf : f_X12_turns w v2 v3 v4 v5 S = some R) : zC (ia_P0 L xs fm) (d + 112) 12055 [.ref 41, .ref w, .int v2, .int v3, .int v4, .int v5] (h, t) (zQv zDr h0 t R) := by
  refine zC_of mt_12055 nn_12055 (Nat.le_of_ble_eq_true rfl) ?_
  refine zW_lv (lv' := [(0, .ref 41), (1, .ref w), (2, .int v2), (3, .int v3), (4, .int v4), (5, .int v5)]) rfl ?_
  unfold f_X12_turns at hf
  refine z_aload_n dX12_turns_0 rfl ?_
  refine z_bipush (v := 64) dX12_turns_1 (by decide) ?_
  refine z_ialoadL (i := 64) dX12_turns_3 hE ho_w.1 (by decide) (by decide) ?_
  obtain ⟨y1, ey1, hf⟩ := zl_some hf
  refine z_topi ey1 ?_
  refine z_istore (lv' := [(6, .int y1), (0, .ref 41), (1, .ref w), (2, .int v2), (3, .int v3), (4, .int v4), (5, .int v5)]) dX12_turns_4 (by decide) rfl ?_
  refine z_bipush (v := 7) dX12_turns_6 (by decide) ?_
  refine z_iload dX12_turns_8 rfl ?_
  refine z_imul dX12_turns_10 ?_
  obtain ⟨y2, ey2, hf⟩ := zl_some hf
  refine z_topi ey2 ?_
  refine z_istore (lv' := [(7, .int y2), (6, .int y1), (0, .ref 41), (1, .ref w), (2, .int v2), (3, .int v3), (4, .int v4), (5, .int v5)]) dX12_turns_11 (by decide) rfl ?_
  refine z_iconst (v := 0) dX12_turns_13 (by decide) ?_
  refine z_aload_n dX12_turns_14 rfl ?_
  refine z_aload_n dX12_turns_15 rfl ?_
  refine z_iload_n dX12_turns_16 rfl ?_
  refine z_iload_n dX12_turns_17 rfl ?_
  refine z_iload dX12_turns_18 rfl ?_
  obtain ⟨r4, S3, k5, hf⟩ := zb_some hf
  refine z_callVi dX12_turns_20 tM_12_333 mt_12049 (Nat.le_of_ble_eq_true rfl) rfl rfl (z_recv hE dr_41 rfl) rfl (by have q0 : 41 < t.1 := Nat.lt_of_lt_of_le (by decide) hn1; have q1 : w < t.1 := Nat.lt_of_lt_of_le ho_w.2 (Nat.le_trans (by decide) hn1); simp [ia_oks, ia_okv, q0, q1]) (Nat.le_of_ble_eq_true rfl) (w_X12_gripOf hn1 hn2 (d + 0) ho_w hE k5) (fun h hE => ?_)
  refine z_iload dX12_turns_23 rfl ?_
  refine z_isub dX12_turns_25 ?_
  refine z_mmax dX12_turns_26 tM_12_308 (Nat.le_of_ble_eq_true rfl) ?_
  obtain ⟨y6, ey6, hf⟩ := zl_some hf
  refine z_topi ey6 ?_
  refine z_istore (lv' := [(8, .int y6), (7, .int y2), (6, .int y1), (0, .ref 41), (1, .ref w), (2, .int v2), (3, .int v3), (4, .int v4), (5, .int v5)]) dX12_turns_29 (by decide) rfl ?_
  refine z_iload dX12_turns_31 rfl ?_
  refine z_aload_n dX12_turns_33 rfl ?_
  refine z_getC dX12_turns_34 tF_12_37 hE dr_41 rfl rfl ?_
  refine z_bipush (v := 6) dX12_turns_37 (by decide) ?_
  refine z_iload dX12_turns_39 rfl ?_
  refine z_imul dX12_turns_41 ?_
  refine z_iconst (v := 3) dX12_turns_42 (by decide) ?_
  refine z_iadd dX12_turns_43 ?_
  obtain ⟨b7, hf⟩ := zchk hf
  refine z_ialoadL dX12_turns_44 hE dr_46 b7 rfl ?_
  obtain ⟨J9, eJ9, hf⟩ := zl_some hf
  have hJ9 : ∀ (S10 : zS) (h : Nat → va_E), zE zDr h0 S10 (h, t) → J9 S10 = some R → zW (ia_P0 L xs fm) ia_nx (d + 111) 12 false cX12_turns 10 (none) 134 [(0, .ref 41), (1, .ref w), (2, .int v2), (3, .int v3), (4, .int v4), (5, .int v5), (6, .int y1), (7, .int y2), (8, .int y6)] [] (h, t) (zQv zDr h0 t R) := by
    intro S10 h hE hf
    rw [eJ9] at hf
    refine z_aload_n dX12_turns_134 rfl ?_
    refine z_bipush (v := 28) dX12_turns_135 (by decide) ?_
    refine z_iconst (v := 2) dX12_turns_137 (by decide) ?_
    refine z_iload_n dX12_turns_138 rfl ?_
    refine z_imul dX12_turns_139 ?_
    refine z_iadd dX12_turns_140 ?_
    refine z_iconst (v := 0) dX12_turns_141 (by decide) ?_
    refine z_aload_n dX12_turns_142 rfl ?_
    refine z_bipush (v := 28) dX12_turns_143 (by decide) ?_
    refine z_iconst (v := 2) dX12_turns_145 (by decide) ?_
    refine z_iload_n dX12_turns_146 rfl ?_
    refine z_imul dX12_turns_147 ?_
    refine z_iadd dX12_turns_148 ?_
    obtain ⟨b11, hf⟩ := zchk hf
    refine z_ialoadL dX12_turns_149 hE ho_w.1 b11 rfl ?_
    refine z_aload_n dX12_turns_150 rfl ?_
    refine z_getC dX12_turns_151 tF_12_43 hE dr_41 rfl rfl ?_
    refine z_iconst (v := 5) dX12_turns_154 (by decide) ?_
    refine z_iload_n dX12_turns_155 rfl ?_
    refine z_imul dX12_turns_156 ?_
    refine z_iconst (v := 3) dX12_turns_157 (by decide) ?_
    refine z_iadd dX12_turns_158 ?_
    obtain ⟨b12, hf⟩ := zchk hf
    refine z_ialoadL dX12_turns_159 hE dr_48 b12 rfl ?_
    refine z_isub dX12_turns_160 ?_
    refine z_mmax dX12_turns_161 tM_12_308 (Nat.le_of_ble_eq_true rfl) ?_
    obtain ⟨b13, hf⟩ := zchk hf
    obtain ⟨S14, eS14, hf⟩ := zl_some hf
    refine z_iastoreL (i := (28 + (2 * v2)).toNatClampNeg) dX12_turns_164 hE ho_w.1 b13 rfl (fun h hE => ?_)
    rw [← eS14] at hE
    refine z_aload_n dX12_turns_165 rfl ?_
    refine z_bipush (v := 65) dX12_turns_166 (by decide) ?_
    refine z_dup2 dX12_turns_168 ⟨rfl, rfl⟩ ?_
    refine z_ialoadL (i := 65) dX12_turns_169 hE ho_w.1 (by decide) (by decide) ?_
    refine z_iconst (v := 1) dX12_turns_170 (by decide) ?_
    refine z_iadd dX12_turns_171 ?_
    obtain ⟨S15, eS15, hf⟩ := zl_some hf
    refine z_iastoreL (i := 65) dX12_turns_172 hE ho_w.1 (by decide) (by decide) (fun h hE => ?_)
    rw [← eS15] at hE
    have e_ := Option.some.inj hf
    subst e_
    exact z_vreturn dX12_turns_173 rfl ⟨h, rfl, rfl, hE⟩
  by_cases c8 : v4 = (S3.1 46 ((6 * y1) + 3).toNatClampNeg)
  · have hf := zif_t hf c8
    refine z_icmp_eq_t (tgt := 70) dX12_turns_45 (by decide) c8 ?_
    refine z_iload dX12_turns_70 rfl ?_
    refine z_aload_n dX12_turns_72 rfl ?_
    refine z_iload dX12_turns_73 rfl ?_
    obtain ⟨r17, S16, k18, hf⟩ := zb_some hf
    refine z_callSi dX12_turns_75 tM_12_321 (by decide) mt_12041 (Nat.le_of_ble_eq_true rfl) rfl rfl (by have q0 : 41 < t.1 := Nat.lt_of_lt_of_le (by decide) hn1; have q1 : w < t.1 := Nat.lt_of_lt_of_le ho_w.2 (Nat.le_trans (by decide) hn1); simp [ia_oks, ia_okv, q0, q1]) (Nat.le_of_ble_eq_true rfl) (w_X12_holdOf hn1 hn2 (d + 110) ho_w hE k18) (fun h hE => ?_)
    by_cases c19 : y6 < r17
    · have hf := zif_t hf c19
      refine z_icmp_lt_t (tgt := 91) dX12_turns_78 (by decide) c19 ?_
      refine z_aload_n dX12_turns_91 rfl ?_
      refine z_iload dX12_turns_92 rfl ?_
      refine z_iconst (v := 1) dX12_turns_94 (by decide) ?_
      refine z_iadd dX12_turns_95 ?_
      obtain ⟨b20, hf⟩ := zchk hf
      refine z_ialoadL dX12_turns_96 hE ho_w.1 b20 rfl ?_
      refine z_iload dX12_turns_97 rfl ?_
      refine z_bipush (v := 10) dX12_turns_99 (by decide) ?_
      refine z_idiv dX12_turns_101 (by decide) ?_
      refine z_mmin dX12_turns_102 tM_12_310 (Nat.le_of_ble_eq_true rfl) ?_
      obtain ⟨y21, ey21, hf⟩ := zl_some hf
      refine z_topi ey21 ?_
      refine z_istore (lv' := [(9, .int y21), (8, .int y6), (7, .int y2), (6, .int y1), (0, .ref 41), (1, .ref w), (2, .int v2), (3, .int v3), (4, .int v4), (5, .int v5)]) dX12_turns_105 (by decide) rfl ?_
      refine z_aload_n dX12_turns_107 rfl ?_
      refine z_iload dX12_turns_108 rfl ?_
      refine z_iconst (v := 1) dX12_turns_110 (by decide) ?_
      refine z_iadd dX12_turns_111 ?_
      refine z_dup2 dX12_turns_112 ⟨rfl, rfl⟩ ?_
      obtain ⟨b22, hf⟩ := zchk hf
      refine z_ialoadL dX12_turns_113 hE ho_w.1 b22 rfl ?_
      refine z_iload dX12_turns_114 rfl ?_
      refine z_isub dX12_turns_116 ?_
      obtain ⟨b23, hf⟩ := zchk hf
      obtain ⟨S24, eS24, hf⟩ := zl_some hf
      refine z_iastoreL (i := (y2 + 1).toNatClampNeg) dX12_turns_117 hE ho_w.1 b23 rfl (fun h hE => ?_)
      rw [← eS24] at hE
      refine z_aload_n dX12_turns_118 rfl ?_
      refine z_bipush (v := 40) dX12_turns_119 (by decide) ?_
      refine z_iconst (v := 4) dX12_turns_121 (by decide) ?_
      refine z_iload_n dX12_turns_122 rfl ?_
      refine z_imul dX12_turns_123 ?_
      refine z_iadd dX12_turns_124 ?_
      refine z_iload dX12_turns_125 rfl ?_
      refine z_iadd dX12_turns_127 ?_
      refine z_dup2 dX12_turns_128 ⟨rfl, rfl⟩ ?_
      obtain ⟨b25, hf⟩ := zchk hf
      refine z_ialoadL dX12_turns_129 hE ho_w.1 b25 rfl ?_
      refine z_iload dX12_turns_130 rfl ?_
      refine z_iadd dX12_turns_132 ?_
      obtain ⟨b26, hf⟩ := zchk hf
      obtain ⟨S27, eS27, hf⟩ := zl_some hf
      refine z_iastoreL (i := ((40 + (4 * v2)) + y1).toNatClampNeg) dX12_turns_133 hE ho_w.1 b26 rfl (fun h hE => ?_)
      rw [← eS27] at hE
      exact zW.sub (hJ9 S27 _ hE hf) [4, 5, 6, 7, 8, 9, 3, 2, 1] rfl rfl rfl rfl
    · have hf := zif_f hf c19
      refine z_icmp_lt_f (tgt := 91) dX12_turns_78 (by decide) c19 ?_
      refine z_aload_n dX12_turns_81 rfl ?_
      refine z_iload dX12_turns_82 rfl ?_
      refine z_iconst (v := 5) dX12_turns_84 (by decide) ?_
      refine z_iadd dX12_turns_85 ?_
      refine z_iconst (v := 1) dX12_turns_86 (by decide) ?_
      obtain ⟨b28, hf⟩ := zchk hf
      obtain ⟨S29, eS29, hf⟩ := zl_some hf
      refine z_iastoreL (i := (y2 + 5).toNatClampNeg) dX12_turns_87 hE ho_w.1 b28 rfl (fun h hE => ?_)
      rw [← eS29] at hE
      refine z_goto (tgt := 134) dX12_turns_88 (by decide) ?_
      exact zW.sub (hJ9 S29 _ hE hf) [3, 4, 5, 6, 7, 8, 2, 1, 0] rfl rfl rfl rfl
  · have hf := zif_f hf c8
    refine z_icmp_eq_f (tgt := 70) dX12_turns_45 (by decide) c8 ?_
    refine z_aload_n dX12_turns_48 rfl ?_
    refine z_iload dX12_turns_49 rfl ?_
    refine z_iconst (v := 1) dX12_turns_51 (by decide) ?_
    refine z_iadd dX12_turns_52 ?_
    refine z_bipush (v := 99) dX12_turns_53 (by decide) ?_
    refine z_aload_n dX12_turns_55 rfl ?_
    refine z_iload dX12_turns_56 rfl ?_
    refine z_iconst (v := 1) dX12_turns_58 (by decide) ?_
    refine z_iadd dX12_turns_59 ?_
    obtain ⟨b30, hf⟩ := zchk hf
    refine z_ialoadL dX12_turns_60 hE ho_w.1 b30 rfl ?_
    refine z_iconst (v := 2) dX12_turns_61 (by decide) ?_
    refine z_iadd dX12_turns_62 ?_
    refine z_mmin dX12_turns_63 tM_12_310 (Nat.le_of_ble_eq_true rfl) ?_
    obtain ⟨b31, hf⟩ := zchk hf
    obtain ⟨S32, eS32, hf⟩ := zl_some hf
    refine z_iastoreL (i := (y2 + 1).toNatClampNeg) dX12_turns_66 hE ho_w.1 b31 rfl (fun h hE => ?_)
    rw [← eS32] at hE
    refine z_goto (tgt := 134) dX12_turns_67 (by decide) ?_
    exact zW.sub (hJ9 S32 _ hE hf) [3, 4, 5, 6, 7, 8, 2, 1, 0] rfl rfl rfl rfl
end ZX
