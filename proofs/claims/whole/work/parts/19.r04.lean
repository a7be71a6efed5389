section ZX
def f_X12_copy_rw_rw_L2 (w : Nat) (u : Nat) (ex : Int32 → zS → Option (Unit × zS))  : Nat → Int32 → zS → Option (Unit × zS)
  | 0, _, _ => none
  | k + 1, x3, S =>
    if 66 ≤ x3 then
    ex x3 S
    else
    if ia_in x3 66 = true then
    if ia_in x3 66 = true then
    zl (sV S u (x3.toNatClampNeg) (S.1 w x3.toNatClampNeg)) fun S4 =>
    zl (x3 + 1) fun (y5 : Int32) =>
    f_X12_copy_rw_rw_L2 w u ex k y5 S4
    else none
    else none
def f_X12_copy_rw_rw (w : Nat) (u : Nat) (S : zS) : Option (Unit × zS) :=
f_X12_copy_rw_rw_L2 w u (fun (q7 : Int32) (S6 : zS) =>
some ((), S6))  zN 0 S
theorem w_X12_copy_rw_rw_L2 {L : Nat} {xs : Nat → Int32} {fm : Bool} {h0 : Nat → va_E} {t : Nat × Nat × Nat} (hn1 : 64 ≤ t.1) (hn2 : t.1 ≤ 1000000) (d : Nat) {w : Nat} {u : Nat} (ho_w : zRw w) (ho_u : zRw u) {ex : Int32 → zS → Option (Unit × zS)} {R : Unit × zS} (hex : ∀ (x3 : Int32) (S : zS) (h : Nat → va_E), zE zDr h0 S (h, t) → ex x3 S = some R → zW (ia_P0 L xs fm) ia_nx (d + 0) 12 false cX12_copy 4 (none) 20 [(0, .ref 41), (1, .ref w), (2, .ref u), (3, .int x3)] [] (h, t) (zQv zDr h0 t R)) : ∀ (k : Nat) (x3 : Int32) (S : zS) (h : Nat → va_E), zE zDr h0 S (h, t) → f_X12_copy_rw_rw_L2 w u ex  k x3 S = some R → zW (ia_P0 L xs fm) ia_nx (d + 0) 12 false cX12_copy 4 (none) 2 [(0, .ref 41), (1, .ref w), (2, .ref u), (3, .int x3)] [] (h, t) (zQv zDr h0 t R) := by
  intro k
  induction k with
  | zero => intro x3 S h hE hf; cases hf
  | succ k ih =>
    intro x3 S h hE hf
    unfold f_X12_copy_rw_rw_L2 at hf
    refine z_iload_n dX12_copy_2 rfl ?_
    refine z_bipush (v := 66) dX12_copy_3 (by decide) ?_
    by_cases c1 : 66 ≤ x3
    · have hf := zif_t hf c1
      refine z_icmp_ge_t (tgt := 20) dX12_copy_5 (by decide) c1 ?_
      exact zW.sub (hex x3 S _ hE hf) [0, 1, 2, 3] rfl rfl rfl rfl
    · have hf := zif_f hf c1
      refine z_icmp_ge_f (tgt := 20) dX12_copy_5 (by decide) c1 ?_
      refine z_aload_n dX12_copy_8 rfl ?_
      refine z_iload_n dX12_copy_9 rfl ?_
      refine z_aload_n dX12_copy_10 rfl ?_
      refine z_iload_n dX12_copy_11 rfl ?_
      obtain ⟨b2, hf⟩ := zchk hf
      refine z_ialoadL dX12_copy_12 hE ho_w.1 b2 rfl ?_
      obtain ⟨b3, hf⟩ := zchk hf
      obtain ⟨S4, eS4, hf⟩ := zl_some hf
      refine z_iastoreL (i := x3.toNatClampNeg) dX12_copy_13 hE ho_u.1 b3 rfl (fun h hE => ?_)
      rw [← eS4] at hE
      obtain ⟨y5, ey5, hf⟩ := zl_some hf
      refine z_iincY (v := 1) (y := y5) (lv' := [(3, .int y5), (0, .ref 41), (1, .ref w), (2, .ref u)]) dX12_copy_14 rfl (by decide) (by decide) ey5 rfl ?_
      refine z_goto (tgt := 2) dX12_copy_17 (by decide) ?_
      exact zW.sub (ih y5 S4 _ hE hf) [1, 2, 3, 0] rfl rfl rfl rfl
theorem w_X12_copy_rw_rw {L : Nat} {xs : Nat → Int32} {fm : Bool} {h0 : Nat → va_E} {t : Nat × Nat × Nat} (hn1 : 64 ≤ t.1) (hn2 : t.1 ≤ 1000000) (d : Nat) {w : Nat} {u : Nat} (ho_w : zRw w) (ho_u : zRw u) {h : Nat → va_E} {S : zS} (hE : zE zDr h0 S (h, t)) {R : Unit × zS} (hf : f_X12_copy_rw_rw w u S = some R) : zC (ia_P0 L xs fm) (d + 1) 12079 [.ref 41, .ref w, .ref u] (h, t) (zQv zDr h0 t R) := by
  refine zC_of mt_12079 nn_12079 (Nat.le_of_ble_eq_true rfl) ?_
  refine zW_lv (lv' := [(0, .ref 41), (1, .ref w), (2, .ref u)]) rfl ?_
  unfold f_X12_copy_rw_rw at hf
  refine z_iconst (v := 0) dX12_copy_0 (by decide) ?_
  refine z_istore_n (lv' := [(3, .int 0), (0, .ref 41), (1, .ref w), (2, .ref u)]) dX12_copy_1 (by decide) rfl ?_
  refine zW.sub (w_X12_copy_rw_rw_L2 hn1 hn2 d ho_w ho_u (fun q7 S6 h hE hf => ?_) zN 0 S h hE hf) [1, 2, 3, 0] rfl rfl rfl rfl
  try dsimp only at hf
  have e_ := Option.some.inj hf
  subst e_
  exact z_vreturn dX12_copy_20 rfl ⟨h, rfl, rfl, hE⟩
def f_X12_lineUp_L17 (ex : Int32 → Int32 → zS → Option (Unit × zS)) (i1 : Int32) (i2 : Int32) : Nat → Int32 → Int32 → zS → Option (Unit × zS)
  | 0, _, _, _ => none
  | k + 1, x3, x4, S =>
    if i2 ≤ x4 then
    ex x3 x4 S
    else
    zl (x3 * 10) fun (y5 : Int32) =>
    zl (x4 + 1) fun (y6 : Int32) =>
    f_X12_lineUp_L17 ex i1 i2 k y5 y6 S
def f_X12_lineUp_L37 (ex : Int32 → Int32 → zS → Option (Unit × zS)) (i1 : Int32) (i2 : Int32) : Nat → Int32 → Int32 → zS → Option (Unit × zS)
  | 0, _, _, _ => none
  | k + 1, x3, x4, S =>
    if i2 ≤ x4 then
    ex x3 x4 S
    else
    if x3 = 0 then none else
    if ia_in ((6 * (S.1 55 64)) + 3) 24 = true then
    zb (f_X12_turns 55 ((i1 / x3) - (i1 / x3) / 10 * 10) (-1) (S.1 46 ((6 * (S.1 55 64)) + 3).toNatClampNeg) 0 S) fun _ S12 =>
    zl (x3 / 10) fun (y15 : Int32) =>
    zl (x4 + 1) fun (y16 : Int32) =>
    f_X12_lineUp_L37 ex i1 i2 k y15 y16 S12
    else none
def f_X12_lineUp (v1 : Int32) (v2 : Int32) (S : zS) : Option (Unit × zS) :=
zb (f_X12_copy_rw_rw 54 55 S) fun _ S1 =>
f_X12_lineUp_L17 (fun (q8 : Int32) (q9 : Int32) (S7 : zS) =>
f_X12_lineUp_L37 (fun (q19 : Int32) (q20 : Int32) (S18 : zS) =>
some ((), S18)) v1 v2 zN q8 0 S7) v1 v2 zN 1 1 S1
theorem w_X12_lineUp_L17 {L : Nat} {xs : Nat → Int32} {fm : Bool} {h0 : Nat → va_E} {t : Nat × Nat × Nat} (hn1 : 64 ≤ t.1) (hn2 : t.1 ≤ 1000000) (d : Nat) {ex : Int32 → Int32 → zS → Option (Unit × zS)} {i1 : Int32} {i2 : Int32} {R : Unit × zS} (hex : ∀ (x3 : Int32) (x4 : Int32) (S : zS) (h : Nat → va_E), zE zDr h0 S (h, t) → ex x3 x4 S = some R → zW (ia_P0 L xs fm) ia_nx (d + 112) 12 false cX12_lineUp 5 (none) 34 [(0, .ref 41), (1, .int i1), (2, .int i2), (3, .int x3), (4, .int x4)] [] (h, t) (zQv zDr h0 t R)) : ∀ (k : Nat) (x3 : Int32) (x4 : Int32) (S : zS) (h : Nat → va_E), zE zDr h0 S (h, t) → f_X12_lineUp_L17 ex i1 i2 k x3 x4 S = some R → zW (ia_P0 L xs fm) ia_nx (d + 112) 12 false cX12_lineUp 5 (none) 17 [(0, .ref 41), (1, .int i1), (2, .int i2), (3, .int x3), (4, .int x4)] [] (h, t) (zQv zDr h0 t R) := by
  intro k
  induction k with
  | zero => intro x3 x4 S h hE hf; cases hf
  | succ k ih =>
    intro x3 x4 S h hE hf
    unfold f_X12_lineUp_L17 at hf
    refine z_iload dX12_lineUp_17 rfl ?_
    refine z_iload_n dX12_lineUp_19 rfl ?_
    by_cases c4 : i2 ≤ x4
    · have hf := zif_t hf c4
      refine z_icmp_ge_t (tgt := 34) dX12_lineUp_20 (by decide) c4 ?_
      exact zW.sub (hex x3 x4 S _ hE hf) [0, 1, 2, 3, 4] rfl rfl rfl rfl
    · have hf := zif_f hf c4
      refine z_icmp_ge_f (tgt := 34) dX12_lineUp_20 (by decide) c4 ?_
      refine z_iload_n dX12_lineUp_23 rfl ?_
      refine z_bipush (v := 10) dX12_lineUp_24 (by decide) ?_
      refine z_imul dX12_lineUp_26 ?_
      obtain ⟨y5, ey5, hf⟩ := zl_some hf
      refine z_topi ey5 ?_
      refine z_istore_n (lv' := [(3, .int y5), (0, .ref 41), (1, .int i1), (2, .int i2), (4, .int x4)]) dX12_lineUp_27 (by decide) rfl ?_
      obtain ⟨y6, ey6, hf⟩ := zl_some hf
      refine z_iincY (v := 1) (y := y6) (lv' := [(4, .int y6), (3, .int y5), (0, .ref 41), (1, .int i1), (2, .int i2)]) dX12_lineUp_28 rfl (by decide) (by decide) ey6 rfl ?_
      refine z_goto (tgt := 17) dX12_lineUp_31 (by decide) ?_
      exact zW.sub (ih y5 y6 S _ hE hf) [2, 3, 4, 1, 0] rfl rfl rfl rfl
theorem w_X12_lineUp_L37 {L : Nat} {xs : Nat → Int32} {fm : Bool} {h0 : Nat → va_E} {t : Nat × Nat × Nat} (hn1 : 64 ≤ t.1) (hn2 : t.1 ≤ 1000000) (d : Nat) {ex : Int32 → Int32 → zS → Option (Unit × zS)} {i1 : Int32} {i2 : Int32} {R : Unit × zS} (hex : ∀ (x3 : Int32) (x4 : Int32) (S : zS) (h : Nat → va_E), zE zDr h0 S (h, t) → ex x3 x4 S = some R → zW (ia_P0 L xs fm) ia_nx (d + 112) 12 false cX12_lineUp 5 (none) 87 [(0, .ref 41), (1, .int i1), (2, .int i2), (3, .int x3), (4, .int x4)] [] (h, t) (zQv zDr h0 t R)) : ∀ (k : Nat) (x3 : Int32) (x4 : Int32) (S : zS) (h : Nat → va_E), zE zDr h0 S (h, t) → f_X12_lineUp_L37 ex i1 i2 k x3 x4 S = some R → zW (ia_P0 L xs fm) ia_nx (d + 112) 12 false cX12_lineUp 5 (none) 37 [(0, .ref 41), (1, .int i1), (2, .int i2), (3, .int x3), (4, .int x4)] [] (h, t) (zQv zDr h0 t R) := by
  intro k
  induction k with
  | zero => intro x3 x4 S h hE hf; cases hf
  | succ k ih =>
    intro x3 x4 S h hE hf
    unfold f_X12_lineUp_L37 at hf
    refine z_iload dX12_lineUp_37 rfl ?_
    refine z_iload_n dX12_lineUp_39 rfl ?_
    by_cases c10 : i2 ≤ x4
    · have hf := zif_t hf c10
      refine z_icmp_ge_t (tgt := 87) dX12_lineUp_40 (by decide) c10 ?_
      exact zW.sub (hex x3 x4 S _ hE hf) [0, 1, 2, 3, 4] rfl rfl rfl rfl
    · have hf := zif_f hf c10
      refine z_icmp_ge_f (tgt := 87) dX12_lineUp_40 (by decide) c10 ?_
      refine z_aload_n dX12_lineUp_43 rfl ?_
      refine z_aload_n dX12_lineUp_44 rfl ?_
      refine z_getC dX12_lineUp_45 tF_12_64 hE dr_41 rfl rfl ?_
      refine z_iload_n dX12_lineUp_48 rfl ?_
      refine z_iload_n dX12_lineUp_49 rfl ?_
      obtain ⟨b17, hf⟩ := zchkn hf
      refine z_idiv dX12_lineUp_50 b17 ?_
      refine z_bipush (v := 10) dX12_lineUp_51 (by decide) ?_
      refine z_irem dX12_lineUp_53 (by decide) ?_
      refine z_iconst (v := (-1)) dX12_lineUp_54 (by decide) ?_
      refine z_aload_n dX12_lineUp_55 rfl ?_
      refine z_getC dX12_lineUp_56 tF_12_37 hE dr_41 rfl rfl ?_
      refine z_bipush (v := 6) dX12_lineUp_59 (by decide) ?_
      refine z_aload_n dX12_lineUp_61 rfl ?_
      refine z_getC dX12_lineUp_62 tF_12_64 hE dr_41 rfl rfl ?_
      refine z_bipush (v := 64) dX12_lineUp_65 (by decide) ?_
      refine z_ialoadL (i := 64) dX12_lineUp_67 hE dr_55 (by decide) (by decide) ?_
      refine z_imul dX12_lineUp_68 ?_
      refine z_iconst (v := 3) dX12_lineUp_69 (by decide) ?_
      refine z_iadd dX12_lineUp_70 ?_
      obtain ⟨b11, hf⟩ := zchk hf
      refine z_ialoadL dX12_lineUp_71 hE dr_46 b11 rfl ?_
      refine z_iconst (v := 0) dX12_lineUp_72 (by decide) ?_
      obtain ⟨r13, S12, k14, hf⟩ := zb_some hf
      refine z_callVv dX12_lineUp_73 tM_12_350 mt_12055 (Nat.le_of_ble_eq_true rfl) rfl rfl (z_recv hE dr_41 rfl) rfl (ia_oks_le hn1 rfl) (Nat.le_of_ble_eq_true rfl) (w_X12_turns hn1 hn2 (d + 0) rw_55 hE k14) (fun h hE => ?_)
      refine z_iload_n dX12_lineUp_76 rfl ?_
      refine z_bipush (v := 10) dX12_lineUp_77 (by decide) ?_
      refine z_idiv dX12_lineUp_79 (by decide) ?_
      obtain ⟨y15, ey15, hf⟩ := zl_some hf
      refine z_topi ey15 ?_
      refine z_istore_n (lv' := [(3, .int y15), (0, .ref 41), (1, .int i1), (2, .int i2), (4, .int x4)]) dX12_lineUp_80 (by decide) rfl ?_
      obtain ⟨y16, ey16, hf⟩ := zl_some hf
      refine z_iincY (v := 1) (y := y16) (lv' := [(4, .int y16), (3, .int y15), (0, .ref 41), (1, .int i1), (2, .int i2)]) dX12_lineUp_81 rfl (by decide) (by decide) ey16 rfl ?_
      refine z_goto (tgt := 37) dX12_lineUp_84 (by decide) ?_
      exact zW.sub (ih y15 y16 S12 _ hE hf) [2, 3, 4, 1, 0] rfl rfl rfl rfl
theorem w_X12_lineUp {L : Nat} {xs : Nat → Int32} {fm : Bool} {h0 : Nat → va_E} {t : Nat × Nat × Nat} (hn1 : 64 ≤ t.1) (hn2 : t.1 ≤ 1000000) (d : Nat) {h : Nat → va_E} {S : zS} (hE : zE zDr h0 S (h, t)) {v1 : Int32} {v2 : Int32} {R : Unit × zS} (hf : f_X12_lineUp v1 v2 S = some R) : zC (ia_P0 L xs fm) (d + 113) 12078 [.ref 41, .int v1, .int v2] (h, t) (zQv zDr h0 t R) := by
  refine zC_of mt_12078 nn_12078 (Nat.le_of_ble_eq_true rfl) ?_
  refine zW_lv (lv' := [(0, .ref 41), (1, .int v1), (2, .int v2)]) rfl ?_
  unfold f_X12_lineUp at hf
  refine z_aload_n dX12_lineUp_0 rfl ?_
  refine z_aload_n dX12_lineUp_1 rfl ?_
  refine z_getC dX12_lineUp_2 tF_12_61 hE dr_41 rfl rfl ?_
  refine z_aload_n dX12_lineUp_5 rfl ?_
  refine z_getC dX12_lineUp_6 tF_12_64 hE dr_41 rfl rfl ?_
  obtain ⟨r2, S1, k3, hf⟩ := zb_some hf
  refine z_callVv dX12_lineUp_9 tM_12_404 mt_12079 (Nat.le_of_ble_eq_true rfl) rfl rfl (z_recv hE dr_41 rfl) rfl (ia_oks_le hn1 rfl) (Nat.le_of_ble_eq_true rfl) (w_X12_copy_rw_rw hn1 hn2 (d + 111) rw_54 rw_55 hE k3) (fun h hE => ?_)
  refine z_iconst (v := 1) dX12_lineUp_12 (by decide) ?_
  refine z_istore_n (lv' := [(3, .int 1), (0, .ref 41), (1, .int v1), (2, .int v2)]) dX12_lineUp_13 (by decide) rfl ?_
  refine z_iconst (v := 1) dX12_lineUp_14 (by decide) ?_
  refine z_istore (lv' := [(4, .int 1), (3, .int 1), (0, .ref 41), (1, .int v1), (2, .int v2)]) dX12_lineUp_15 (by decide) rfl ?_
  refine zW.sub (w_X12_lineUp_L17 hn1 hn2 d (fun q8 q9 S7 h hE hf => ?_) zN 1 1 S1 h hE hf) [2, 3, 4, 1, 0] rfl rfl rfl rfl
  try dsimp only at hf
  refine z_iconst (v := 0) dX12_lineUp_34 (by decide) ?_
  refine z_istore (lv' := [(4, .int 0), (0, .ref 41), (1, .int v1), (2, .int v2), (3, .int q8)]) dX12_lineUp_35 (by decide) rfl ?_
  refine zW.sub (w_X12_lineUp_L37 hn1 hn2 d (fun q19 q20 S18 h hE hf => ?_) zN q8 0 S7 h hE hf) [1, 2, 3, 4, 0] rfl rfl rfl rfl
  try dsimp only at hf
  have e_ := Option.some.inj hf
  subst e_
  exact z_vreturn dX12_lineUp_87 rfl ⟨h, rfl, rfl, hE⟩
def f_X12_goOrder_o_L47 (hub : Int32 → Int32 → Int32 → Int32 → zS → Option (Unit × zS)) (ex : Int32 → zS → Option (Unit × zS)) (i1 : Int32) (i2 : Int32) (i3 : Int32) (i4 : Int32) : Nat → Int32 → zS → Option (Unit × zS)
  | 0, _, _ => none
  | k + 1, x5, S =>
    if (S.1 41 25) ≤ x5 then
    ex x5 S
    else
    zb (f_X12_has i1 x5 S) fun r4 S3 =>
    zl (fun (S8 : zS) =>
    zl (x5 + 1) fun (y9 : Int32) =>
    f_X12_goOrder_o_L47 hub ex i1 i2 i3 i4 k y9 S8) fun J7 =>
    if r4 = 0 then
    if i4 = (-1) then
    zb (f_X12_lineUp i2 i3 S3) fun _ S11 =>
    if ia_in ((6 * (S11.1 55 64)) + 3) 24 = true then
    zb (f_X12_turns 55 x5 (-1) (S11.1 46 ((6 * (S11.1 55 64)) + 3).toNatClampNeg) 0 S11) fun _ S15 =>
    if ia_in ((7 * (S15.1 55 64)) + 5) 66 = true then
    zl (fun (q21 : Int32) =>
    zb (hub (i1 ||| (1 <<< (x5 &&& 31))) ((10 * i2) + x5) (i3 + 1) q21 S15) fun _ S22 =>
    J7 S22) fun J20 =>
    if ¬ (S15.1 55 ((7 * (S15.1 55 64)) + 5).toNatClampNeg) = 1 then
    J20 (-1)
    else
    J20 (i3 + 1)
    else none
    else none
    else
    zb (hub (i1 ||| (1 <<< (x5 &&& 31))) ((10 * i2) + x5) (i3 + 1) i4 S3) fun _ S25 =>
    J7 S25
    else
    J7 S3
def f_X12_goOrder_o (hub : Int32 → Int32 → Int32 → Int32 → zS → Option (Unit × zS)) (v1 : Int32) (v2 : Int32) (v3 : Int32) (v4 : Int32) (S : zS) : Option (Unit × zS) :=
if ¬ v3 = (S.1 41 25) then
f_X12_goOrder_o_L47 hub (fun (q29 : Int32) (S28 : zS) =>
some ((), S28)) v1 v2 v3 v4 zN 0 S
else
if v4 = (-1) then
some ((), S)
else
zl (fun (u33 : Unit) =>
zl (sV S 41 42 v2) fun S34 =>
zl (sV S34 41 43 v4) fun S35 =>
some ((), S35)) fun J32 =>
if (S.1 41 42) = (-1) then
J32 ()
else
if v4 < (S.1 41 43) then
J32 ()
else
some ((), S)
theorem w_X12_goOrder_o_L47 {L : Nat} {xs : Nat → Int32} {fm : Bool} {h0 : Nat → va_E} {t : Nat × Nat × Nat} (hn1 : 64 ≤ t.1) (hn2 : t.1 ≤ 1000000) (d : Nat) {hub : Int32 → Int32 → Int32 → Int32 → zS → Option (Unit × zS)} (hh : ∀ (a0 a1 a2 a3 : Int32) (h : Nat → va_E) (S : zS) (R : Unit × zS), zE zDr h0 S (h, t) → hub a0 a1 a2 a3 S = some R → zC (ia_P0 L xs fm) (d + 113) 12077 [.ref 41, .int a0, .int a1, .int a2, .int a3] (h, t) (zQv zDr h0 t R)) {ex : Int32 → zS → Option (Unit × zS)} {i1 : Int32} {i2 : Int32} {i3 : Int32} {i4 : Int32} {R : Unit × zS} (hex : ∀ (x5 : Int32) (S : zS) (h : Nat → va_E), zE zDr h0 S (h, t) → ex x5 S = some R → zW (ia_P0 L xs fm) ia_nx (d + 113) 12 false cX12_goOrder 6 (none) 188 [(0, .ref 41), (1, .int i1), (2, .int i2), (3, .int i3), (4, .int i4), (5, .int x5)] [] (h, t) (zQv zDr h0 t R)) : ∀ (k : Nat) (x5 : Int32) (S : zS) (h : Nat → va_E), zE zDr h0 S (h, t) → f_X12_goOrder_o_L47 hub ex i1 i2 i3 i4 k x5 S = some R → zW (ia_P0 L xs fm) ia_nx (d + 113) 12 false cX12_goOrder 6 (none) 47 [(0, .ref 41), (1, .int i1), (2, .int i2), (3, .int i3), (4, .int i4), (5, .int x5)] [] (h, t) (zQv zDr h0 t R) := by
  intro k
  induction k with
  | zero => intro x5 S h hE hf; cases hf
  | succ k ih =>
    intro x5 S h hE hf
    unfold f_X12_goOrder_o_L47 at hf
    refine z_iload dX12_goOrder_47 rfl ?_
    refine z_aload_n dX12_goOrder_49 rfl ?_
    refine z_getI dX12_goOrder_50 tF_12_288 hE dr_41 rfl rfl ?_
    by_cases c2 : (S.1 41 25) ≤ x5
    · have hf := zif_t hf c2
      refine z_icmp_ge_t (tgt := 188) dX12_goOrder_53 (by decide) c2 ?_
      exact zW.sub (hex x5 S _ hE hf) [0, 1, 2, 3, 4, 5] rfl rfl rfl rfl
    · have hf := zif_f hf c2
      refine z_icmp_ge_f (tgt := 188) dX12_goOrder_53 (by decide) c2 ?_
      refine z_iload_n dX12_goOrder_56 rfl ?_
      refine z_iload dX12_goOrder_57 rfl ?_
      obtain ⟨r4, S3, k5, hf⟩ := zb_some hf
      refine z_callSi dX12_goOrder_59 tM_12_241 (by decide) mt_12015 (Nat.le_of_ble_eq_true rfl) rfl rfl (ia_oks_le hn1 rfl) (Nat.le_of_ble_eq_true rfl) (w_X12_has hn1 hn2 (d + 112) hE k5) (fun h hE => ?_)
      obtain ⟨J7, eJ7, hf⟩ := zl_some hf
      have hJ7 : ∀ (S8 : zS) (h : Nat → va_E), zE zDr h0 S8 (h, t) → J7 S8 = some R → zW (ia_P0 L xs fm) ia_nx (d + 113) 12 false cX12_goOrder 6 (none) 182 [(0, .ref 41), (1, .int i1), (2, .int i2), (3, .int i3), (4, .int i4), (5, .int x5)] [] (h, t) (zQv zDr h0 t R) := by
        intro S8 h hE hf
        rw [eJ7] at hf
        obtain ⟨y9, ey9, hf⟩ := zl_some hf
        refine z_iincY (v := 1) (y := y9) (lv' := [(5, .int y9), (0, .ref 41), (1, .int i1), (2, .int i2), (3, .int i3), (4, .int i4)]) dX12_goOrder_182 rfl (by decide) (by decide) ey9 rfl ?_
        refine z_goto (tgt := 47) dX12_goOrder_185 (by decide) ?_
        exact zW.sub (ih y9 S8 _ hE hf) [1, 2, 3, 4, 5, 0] rfl rfl rfl rfl
      by_cases c6 : r4 = 0
      · have hf := zif_t hf c6
        refine z_if_eq_t (tgt := 68) dX12_goOrder_62 (by decide) c6 ?_
        refine z_iload dX12_goOrder_68 rfl ?_
        refine z_iconst (v := (-1)) dX12_goOrder_70 (by decide) ?_
        by_cases c10 : i4 = (-1)
        · have hf := zif_t hf c10
          refine z_icmp_eq_t (tgt := 99) dX12_goOrder_71 (by decide) c10 ?_
          refine z_aload_n dX12_goOrder_99 rfl ?_
          refine z_iload_n dX12_goOrder_100 rfl ?_
          refine z_iload_n dX12_goOrder_101 rfl ?_
          obtain ⟨r12, S11, k13, hf⟩ := zb_some hf
          refine z_callVv dX12_goOrder_102 tM_12_400 mt_12078 (Nat.le_of_ble_eq_true rfl) rfl rfl (z_recv hE dr_41 rfl) rfl (ia_oks_le hn1 rfl) (Nat.le_of_ble_eq_true rfl) (w_X12_lineUp hn1 hn2 (d + 0) hE k13) (fun h hE => ?_)
          refine z_aload_n dX12_goOrder_105 rfl ?_
          refine z_aload_n dX12_goOrder_106 rfl ?_
          refine z_getC dX12_goOrder_107 tF_12_64 hE dr_41 rfl rfl ?_
          refine z_iload dX12_goOrder_110 rfl ?_
          refine z_iconst (v := (-1)) dX12_goOrder_112 (by decide) ?_
          refine z_aload_n dX12_goOrder_113 rfl ?_
          refine z_getC dX12_goOrder_114 tF_12_37 hE dr_41 rfl rfl ?_
          refine z_bipush (v := 6) dX12_goOrder_117 (by decide) ?_
          refine z_aload_n dX12_goOrder_119 rfl ?_
          refine z_getC dX12_goOrder_120 tF_12_64 hE dr_41 rfl rfl ?_
          refine z_bipush (v := 64) dX12_goOrder_123 (by decide) ?_
          refine z_ialoadL (i := 64) dX12_goOrder_125 hE dr_55 (by decide) (by decide) ?_
          refine z_imul dX12_goOrder_126 ?_
          refine z_iconst (v := 3) dX12_goOrder_127 (by decide) ?_
          refine z_iadd dX12_goOrder_128 ?_
          obtain ⟨b14, hf⟩ := zchk hf
          refine z_ialoadL dX12_goOrder_129 hE dr_46 b14 rfl ?_
          refine z_iconst (v := 0) dX12_goOrder_130 (by decide) ?_
          obtain ⟨r16, S15, k17, hf⟩ := zb_some hf
          refine z_callVv dX12_goOrder_131 tM_12_350 mt_12055 (Nat.le_of_ble_eq_true rfl) rfl rfl (z_recv hE dr_41 rfl) rfl (ia_oks_le hn1 rfl) (Nat.le_of_ble_eq_true rfl) (w_X12_turns hn1 hn2 (d + 1) rw_55 hE k17) (fun h hE => ?_)
          refine z_aload_n dX12_goOrder_134 rfl ?_
          refine z_iload_n dX12_goOrder_135 rfl ?_
          refine z_iconst (v := 1) dX12_goOrder_136 (by decide) ?_
          refine z_iload dX12_goOrder_137 rfl ?_
          refine z_ishl dX12_goOrder_139 ?_
          refine z_ior dX12_goOrder_140 ?_
          refine z_bipush (v := 10) dX12_goOrder_141 (by decide) ?_
          refine z_iload_n dX12_goOrder_143 rfl ?_
          refine z_imul dX12_goOrder_144 ?_
          refine z_iload dX12_goOrder_145 rfl ?_
          refine z_iadd dX12_goOrder_147 ?_
          refine z_iload_n dX12_goOrder_148 rfl ?_
          refine z_iconst (v := 1) dX12_goOrder_149 (by decide) ?_
          refine z_iadd dX12_goOrder_150 ?_
          refine z_aload_n dX12_goOrder_151 rfl ?_
          refine z_getC dX12_goOrder_152 tF_12_64 hE dr_41 rfl rfl ?_
          refine z_bipush (v := 7) dX12_goOrder_155 (by decide) ?_
          refine z_aload_n dX12_goOrder_157 rfl ?_
          refine z_getC dX12_goOrder_158 tF_12_64 hE dr_41 rfl rfl ?_
          refine z_bipush (v := 64) dX12_goOrder_161 (by decide) ?_
          refine z_ialoadL (i := 64) dX12_goOrder_163 hE dr_55 (by decide) (by decide) ?_
          refine z_imul dX12_goOrder_164 ?_
          refine z_iconst (v := 5) dX12_goOrder_165 (by decide) ?_
          refine z_iadd dX12_goOrder_166 ?_
          obtain ⟨b18, hf⟩ := zchk hf
          refine z_ialoadL dX12_goOrder_167 hE dr_55 b18 rfl ?_
          refine z_iconst (v := 1) dX12_goOrder_168 (by decide) ?_
          obtain ⟨J20, eJ20, hf⟩ := zl_some hf
          have hJ20 : ∀ (q21 : Int32) (h : Nat → va_E), zE zDr h0 S15 (h, t) → J20 q21 = some R → zW (ia_P0 L xs fm) ia_nx (d + 113) 12 false cX12_goOrder 6 (none) 179 [(0, .ref 41), (1, .int i1), (2, .int i2), (3, .int i3), (4, .int i4), (5, .int x5)] [.int q21, .int (i3 + 1), .int ((10 * i2) + x5), .int (i1 ||| (1 <<< (x5 &&& 31))), .ref 41] (h, t) (zQv zDr h0 t R) := by
            intro q21 h hE hf
            rw [eJ20] at hf
            obtain ⟨r23, S22, k24, hf⟩ := zb_some hf
            refine z_callVv dX12_goOrder_179 tM_12_396 mt_12077 (Nat.le_of_ble_eq_true rfl) rfl rfl (z_recv hE dr_41 rfl) rfl (ia_oks_le hn1 rfl) (Nat.le_of_ble_eq_true rfl) ((hh (i1 ||| (1 <<< (x5 &&& 31))) ((10 * i2) + x5) (i3 + 1) q21 h S15 _ hE k24).mono (by omega)) (fun h hE => ?_)
            exact zW.sub (hJ7 S22 _ hE hf) [0, 1, 2, 3, 4, 5] rfl rfl rfl rfl
          by_cases c19 : ¬ (S15.1 55 ((7 * (S15.1 55 64)) + 5).toNatClampNeg) = 1
          · have hf := zif_t hf c19
            refine z_icmp_ne_t (tgt := 178) dX12_goOrder_169 (by decide) c19 ?_
            refine z_iconst (v := (-1)) dX12_goOrder_178 (by decide) ?_
            exact zW.sub (hJ20 (-1) _ hE hf) [0, 1, 2, 3, 4, 5] rfl rfl rfl rfl
          · have hf := zif_f hf c19
            refine z_icmp_ne_f (tgt := 178) dX12_goOrder_169 (by decide) c19 ?_
            refine z_iload_n dX12_goOrder_172 rfl ?_
            refine z_iconst (v := 1) dX12_goOrder_173 (by decide) ?_
            refine z_iadd dX12_goOrder_174 ?_
            refine z_goto (tgt := 179) dX12_goOrder_175 (by decide) ?_
            exact zW.sub (hJ20 (i3 + 1) _ hE hf) [0, 1, 2, 3, 4, 5] rfl rfl rfl rfl
        · have hf := zif_f hf c10
          refine z_icmp_eq_f (tgt := 99) dX12_goOrder_71 (by decide) c10 ?_
          refine z_aload_n dX12_goOrder_74 rfl ?_
          refine z_iload_n dX12_goOrder_75 rfl ?_
          refine z_iconst (v := 1) dX12_goOrder_76 (by decide) ?_
          refine z_iload dX12_goOrder_77 rfl ?_
          refine z_ishl dX12_goOrder_79 ?_
          refine z_ior dX12_goOrder_80 ?_
          refine z_bipush (v := 10) dX12_goOrder_81 (by decide) ?_
          refine z_iload_n dX12_goOrder_83 rfl ?_
          refine z_imul dX12_goOrder_84 ?_
          refine z_iload dX12_goOrder_85 rfl ?_
          refine z_iadd dX12_goOrder_87 ?_
          refine z_iload_n dX12_goOrder_88 rfl ?_
          refine z_iconst (v := 1) dX12_goOrder_89 (by decide) ?_
          refine z_iadd dX12_goOrder_90 ?_
          refine z_iload dX12_goOrder_91 rfl ?_
          obtain ⟨r26, S25, k27, hf⟩ := zb_some hf
          refine z_callVv dX12_goOrder_93 tM_12_396 mt_12077 (Nat.le_of_ble_eq_true rfl) rfl rfl (z_recv hE dr_41 rfl) rfl (ia_oks_le hn1 rfl) (Nat.le_of_ble_eq_true rfl) ((hh (i1 ||| (1 <<< (x5 &&& 31))) ((10 * i2) + x5) (i3 + 1) i4 h S3 _ hE k27).mono (by omega)) (fun h hE => ?_)
          refine z_goto (tgt := 182) dX12_goOrder_96 (by decide) ?_
          exact zW.sub (hJ7 S25 _ hE hf) [0, 1, 2, 3, 4, 5] rfl rfl rfl rfl
      · have hf := zif_f hf c6
        refine z_if_eq_f (tgt := 68) dX12_goOrder_62 (by decide) c6 ?_
        refine z_goto (tgt := 182) dX12_goOrder_65 (by decide) ?_
        exact zW.sub (hJ7 S3 _ hE hf) [0, 1, 2, 3, 4, 5] rfl rfl rfl rfl
theorem w_X12_goOrder_o {L : Nat} {xs : Nat → Int32} {fm : Bool} {h0 : Nat → va_E} {t : Nat × Nat × Nat} (hn1 : 64 ≤ t.1) (hn2 : t.1 ≤ 1000000) (d : Nat) {hub : Int32 → Int32 → Int32 → Int32 → zS → Option (Unit × zS)} (hh : ∀ (a0 a1 a2 a3 : Int32) (h : Nat → va_E) (S : zS) (R : Unit × zS), zE zDr h0 S (h, t) → hub a0 a1 a2 a3 S = some R → zC (ia_P0 L xs fm) (d + 113) 12077 [.ref 41, .int a0, .int a1, .int a2, .int a3] (h, t) (zQv zDr h0 t R)) {h : Nat → va_E} {S : zS} (hE : zE zDr h0 S (h, t)) {v1 : Int32} {v2 : Int32} {v3 : Int32} {v4 : Int32} {R : Unit × zS} (hf : f_X12_goOrder_o hub v1 v2 v3 v4 S = some R) : zC (ia_P0 L xs fm) (d + 114) 12077 [.ref 41, .int v1, .int v2, .int v3, .int v4] (h, t) (zQv zDr h0 t R) := by
  refine zC_of mt_12077 nn_12077 (Nat.le_of_ble_eq_true rfl) ?_
  refine zW_lv (lv' := [(0, .ref 41), (1, .int v1), (2, .int v2), (3, .int v3), (4, .int v4)]) rfl ?_
  unfold f_X12_goOrder_o at hf
  refine z_iload_n dX12_goOrder_0 rfl ?_
  refine z_aload_n dX12_goOrder_1 rfl ?_
  refine z_getI dX12_goOrder_2 tF_12_288 hE dr_41 rfl rfl ?_
  by_cases c1 : ¬ v3 = (S.1 41 25)
  · have hf := zif_t hf c1
    refine z_icmp_ne_t (tgt := 44) dX12_goOrder_5 (by decide) c1 ?_
    refine z_iconst (v := 0) dX12_goOrder_44 (by decide) ?_
    refine z_istore (lv' := [(5, .int 0), (0, .ref 41), (1, .int v1), (2, .int v2), (3, .int v3), (4, .int v4)]) dX12_goOrder_45 (by decide) rfl ?_
    refine zW.sub (w_X12_goOrder_o_L47 hn1 hn2 d hh (fun q29 S28 h hE hf => ?_) zN 0 S h hE hf) [1, 2, 3, 4, 5, 0] rfl rfl rfl rfl
    try dsimp only at hf
    have e_ := Option.some.inj hf
    subst e_
    exact z_vreturn dX12_goOrder_188 rfl ⟨h, rfl, rfl, hE⟩
  · have hf := zif_f hf c1
    refine z_icmp_ne_f (tgt := 44) dX12_goOrder_5 (by decide) c1 ?_
    refine z_iload dX12_goOrder_8 rfl ?_
    refine z_iconst (v := (-1)) dX12_goOrder_10 (by decide) ?_
    by_cases c30 : v4 = (-1)
    · have hf := zif_t hf c30
      refine z_icmp_eq_t (tgt := 31) dX12_goOrder_11 (by decide) c30 ?_
      have e_ := Option.some.inj hf
      subst e_
      exact z_vreturn dX12_goOrder_31 rfl ⟨h, rfl, rfl, hE⟩
    · have hf := zif_f hf c30
      refine z_icmp_eq_f (tgt := 31) dX12_goOrder_11 (by decide) c30 ?_
      refine z_aload_n dX12_goOrder_14 rfl ?_
      refine z_getI dX12_goOrder_15 tF_12_390 hE dr_41 rfl rfl ?_
      refine z_iconst (v := (-1)) dX12_goOrder_18 (by decide) ?_
      obtain ⟨J32, eJ32, hf⟩ := zl_some hf
      have hJ32 : ∀ (u33 : Unit) (h : Nat → va_E), zE zDr h0 S (h, t) → J32 u33 = some R → zW (ia_P0 L xs fm) ia_nx (d + 113) 12 false cX12_goOrder 6 (none) 32 [(0, .ref 41), (1, .int v1), (2, .int v2), (3, .int v3), (4, .int v4)] [] (h, t) (zQv zDr h0 t R) := by
        intro u33 h hE hf
        rw [eJ32] at hf
        refine z_aload_n dX12_goOrder_32 rfl ?_
        refine z_iload_n dX12_goOrder_33 rfl ?_
        obtain ⟨S34, eS34, hf⟩ := zl_some hf
        refine z_putI dX12_goOrder_34 tF_12_390 hE dr_41 rfl rfl rfl rfl (fun h hE => ?_)
        rw [← eS34] at hE
        refine z_aload_n dX12_goOrder_37 rfl ?_
        refine z_iload dX12_goOrder_38 rfl ?_
        obtain ⟨S35, eS35, hf⟩ := zl_some hf
        refine z_putI dX12_goOrder_40 tF_12_393 hE dr_41 rfl rfl rfl rfl (fun h hE => ?_)
        rw [← eS35] at hE
        have e_ := Option.some.inj hf
        subst e_
        exact z_vreturn dX12_goOrder_43 rfl ⟨h, rfl, rfl, hE⟩
      by_cases c31 : (S.1 41 42) = (-1)
      · have hf := zif_t hf c31
        refine z_icmp_eq_t (tgt := 32) dX12_goOrder_19 (by decide) c31 ?_
        exact zW.sub (hJ32 () _ hE hf) [0, 1, 2, 3, 4] rfl rfl rfl rfl
      · have hf := zif_f hf c31
        refine z_icmp_eq_f (tgt := 32) dX12_goOrder_19 (by decide) c31 ?_
        refine z_iload dX12_goOrder_22 rfl ?_
        refine z_aload_n dX12_goOrder_24 rfl ?_
        refine z_getI dX12_goOrder_25 tF_12_393 hE dr_41 rfl rfl ?_
        by_cases c36 : v4 < (S.1 41 43)
        · have hf := zif_t hf c36
          refine z_icmp_lt_t (tgt := 32) dX12_goOrder_28 (by decide) c36 ?_
          exact zW.sub (hJ32 () _ hE hf) [0, 1, 2, 3, 4] rfl rfl rfl rfl
        · have hf := zif_f hf c36
          refine z_icmp_lt_f (tgt := 32) dX12_goOrder_28 (by decide) c36 ?_
          have e_ := Option.some.inj hf
          subst e_
          exact z_vreturn dX12_goOrder_31 rfl ⟨h, rfl, rfl, hE⟩
def f_X12_goOrder_g : Nat → Int32 → Int32 → Int32 → Int32 → zS → Option (Unit × zS)
  | 0 => fun _ _ _ _ _ => none
  | g + 1 => f_X12_goOrder_o (f_X12_goOrder_g g)
theorem w_X12_goOrder_g {L : Nat} {xs : Nat → Int32} {fm : Bool} {h0 : Nat → va_E} {t : Nat × Nat × Nat} (hn1 : 64 ≤ t.1) (hn2 : t.1 ≤ 1000000) (d : Nat) : ∀ g : Nat, ∀ (a0 a1 a2 a3 : Int32) (h : Nat → va_E) (S : zS) (R : Unit × zS), zE zDr h0 S (h, t) → f_X12_goOrder_g g a0 a1 a2 a3 S = some R → zC (ia_P0 L xs fm) (d + 1 * g + 113) 12077 [.ref 41, .int a0, .int a1, .int a2, .int a3] (h, t) (zQv zDr h0 t R) := by
  intro g
  induction g with
  | zero => intro a0 a1 a2 a3 h S R hE hf; cases hf
  | succ g ih => intro a0 a1 a2 a3 h S R hE hf; exact (w_X12_goOrder_o hn1 hn2 (d + 1 * g) ih hE hf).mono (by omega)
def f_X12_goOrder (a0 : Int32) (a1 : Int32) (a2 : Int32) (a3 : Int32) (S : zS) : Option (Unit × zS) := f_X12_goOrder_o (f_X12_goOrder_g 16) a0 a1 a2 a3 S
theorem w_X12_goOrder {L : Nat} {xs : Nat → Int32} {fm : Bool} {h0 : Nat → va_E} {t : Nat × Nat × Nat} (hn1 : 64 ≤ t.1) (hn2 : t.1 ≤ 1000000) (d : Nat) {h : Nat → va_E} {S : zS} (hE : zE zDr h0 S (h, t)) {a0 : Int32} {a1 : Int32} {a2 : Int32} {a3 : Int32} {R : Unit × zS} (hf : f_X12_goOrder a0 a1 a2 a3 S = some R) : zC (ia_P0 L xs fm) (d + 130) 12077 [.ref 41, .int a0, .int a1, .int a2, .int a3] (h, t) (zQv zDr h0 t R) :=
  (w_X12_goOrder_o hn1 hn2 (d + 1 * 16) (w_X12_goOrder_g hn1 hn2 d 16) hE hf).mono (by omega)
def f_X12_order (v1 : Int32) (S : zS) : Option (Int32 × zS) :=
zl (sV S 41 0 0) fun S1 =>
zb (f_X12_canWork S1) fun r3 S2 =>
if r3 = 0 then
some ((-1), S2)
else
zb (f_X12_isIn (v1.toInt64) 0 1 S2) fun r7 S6 =>
if ¬ r7 = 0 then
zl (sV S6 41 42 (-1)) fun S10 =>
zb (f_X12_goOrder 0 0 0 (-1) S10) fun _ S11 =>
if ¬ v1 = 0 then
if ¬ (S11.1 41 42) = (-1) then
some (S11.1 41 43, S11)
else
some ((-1), S11)
else
some (S11.1 41 42, S11)
else
some ((-1), S6)
theorem w_X12_order {L : Nat} {xs : Nat → Int32} {fm : Bool} {h0 : Nat → va_E} {t : Nat × Nat × Nat} (hn1 : 64 ≤ t.1) (hn2 : t.1 ≤ 1000000) (d : Nat) {h : Nat → va_E} {S : zS} (hE : zE zDr h0 S (h, t)) {v1 : Int32} {R : Int32 × zS} (hf : f_X12_order v1 S = some R) : zC (ia_P0 L xs fm) (d + 131) 12076 [.ref 41, .int v1] (h, t) (zQi zDr h0 t R) := by
  refine zC_of mt_12076 nn_12076 (Nat.le_of_ble_eq_true rfl) ?_
  refine zW_lv (lv' := [(0, .ref 41), (1, .int v1)]) rfl ?_
  unfold f_X12_order at hf
  refine z_aload_n dX12_order_0 rfl ?_
  refine z_iconst (v := 0) dX12_order_1 (by decide) ?_
  obtain ⟨S1, eS1, hf⟩ := zl_some hf
  refine z_putI dX12_order_2 tF_12_93 hE dr_41 rfl rfl rfl rfl (fun h hE => ?_)
  rw [← eS1] at hE
  refine z_aload_n dX12_order_5 rfl ?_
  obtain ⟨r3, S2, k4, hf⟩ := zb_some hf
  refine z_callVi dX12_order_6 tM_12_364 mt_12058 (Nat.le_of_ble_eq_true rfl) rfl rfl (z_recv hE dr_41 rfl) rfl (ia_oks_le hn1 rfl) (Nat.le_of_ble_eq_true rfl) (w_X12_canWork hn1 hn2 (d + 128) hE k4) (fun h hE => ?_)
  by_cases c5 : r3 = 0
  · have hf := zif_t hf c5
    refine z_if_eq_t (tgt := 22) dX12_order_9 (by decide) c5 ?_
    refine z_iconst (v := (-1)) dX12_order_22 (by decide) ?_
    have e_ := Option.some.inj hf
    subst e_
    exact z_ireturn dX12_order_23 rfl ⟨h, rfl, rfl, hE⟩
  · have hf := zif_f hf c5
    refine z_if_eq_f (tgt := 22) dX12_order_9 (by decide) c5 ?_
    refine z_iload_n dX12_order_12 rfl ?_
    refine z_i2l dX12_order_13 ?_
    refine z_lconst (v := 0) dX12_order_14 (by decide) ?_
    refine z_lconst (v := 1) dX12_order_15 (by decide) ?_
    obtain ⟨r7, S6, k8, hf⟩ := zb_some hf
    refine z_callSi dX12_order_16 tM_12_214 (by decide) mt_12007 (Nat.le_of_ble_eq_true rfl) rfl rfl (ia_oks_le hn1 rfl) (Nat.le_of_ble_eq_true rfl) (w_X12_isIn hn1 hn2 (d + 129) hE k8) (fun h hE => ?_)
    by_cases c9 : ¬ r7 = 0
    · have hf := zif_t hf c9
      refine z_if_ne_t (tgt := 24) dX12_order_19 (by decide) c9 ?_
      refine z_aload_n dX12_order_24 rfl ?_
      refine z_iconst (v := (-1)) dX12_order_25 (by decide) ?_
      obtain ⟨S10, eS10, hf⟩ := zl_some hf
      refine z_putI dX12_order_26 tF_12_390 hE dr_41 rfl rfl rfl rfl (fun h hE => ?_)
      rw [← eS10] at hE
      refine z_aload_n dX12_order_29 rfl ?_
      refine z_iconst (v := 0) dX12_order_30 (by decide) ?_
      refine z_iconst (v := 0) dX12_order_31 (by decide) ?_
      refine z_iconst (v := 0) dX12_order_32 (by decide) ?_
      refine z_iconst (v := (-1)) dX12_order_33 (by decide) ?_
      obtain ⟨r12, S11, k13, hf⟩ := zb_some hf
      refine z_callVv dX12_order_34 tM_12_396 mt_12077 (Nat.le_of_ble_eq_true rfl) rfl rfl (z_recv hE dr_41 rfl) rfl (ia_oks_le hn1 rfl) (Nat.le_of_ble_eq_true rfl) (w_X12_goOrder hn1 hn2 (d + 0) hE k13) (fun h hE => ?_)
      refine z_iload_n dX12_order_37 rfl ?_
      by_cases c14 : ¬ v1 = 0
      · have hf := zif_t hf c14
        refine z_if_ne_t (tgt := 48) dX12_order_38 (by decide) c14 ?_
        refine z_aload_n dX12_order_48 rfl ?_
        refine z_getI dX12_order_49 tF_12_390 hE dr_41 rfl rfl ?_
        refine z_iconst (v := (-1)) dX12_order_52 (by decide) ?_
        by_cases c15 : ¬ (S11.1 41 42) = (-1)
        · have hf := zif_t hf c15
          refine z_icmp_ne_t (tgt := 60) dX12_order_53 (by decide) c15 ?_
          refine z_aload_n dX12_order_60 rfl ?_
          refine z_getI dX12_order_61 tF_12_393 hE dr_41 rfl rfl ?_
          have e_ := Option.some.inj hf
          subst e_
          exact z_ireturn dX12_order_64 rfl ⟨h, rfl, rfl, hE⟩
        · have hf := zif_f hf c15
          refine z_icmp_ne_f (tgt := 60) dX12_order_53 (by decide) c15 ?_
          refine z_iconst (v := (-1)) dX12_order_56 (by decide) ?_
          refine z_goto (tgt := 64) dX12_order_57 (by decide) ?_
          have e_ := Option.some.inj hf
          subst e_
          exact z_ireturn dX12_order_64 rfl ⟨h, rfl, rfl, hE⟩
      · have hf := zif_f hf c14
        refine z_if_ne_f (tgt := 48) dX12_order_38 (by decide) c14 ?_
        refine z_aload_n dX12_order_41 rfl ?_
        refine z_getI dX12_order_42 tF_12_390 hE dr_41 rfl rfl ?_
        refine z_goto (tgt := 64) dX12_order_45 (by decide) ?_
        have e_ := Option.some.inj hf
        subst e_
        exact z_ireturn dX12_order_64 rfl ⟨h, rfl, rfl, hE⟩
    · have hf := zif_f hf c9
      refine z_if_ne_f (tgt := 24) dX12_order_19 (by decide) c9 ?_
      refine z_iconst (v := (-1)) dX12_order_22 (by decide) ?_
      have e_ := Option.some.inj hf
      subst e_
      exact z_ireturn dX12_order_23 rfl ⟨h, rfl, rfl, hE⟩
def f_X12_goPlan_L29 (ex : Int32 → zS → Option (Unit × zS)) (i1 : Int32) : Nat → Int32 → zS → Option (Unit × zS)
  | 0, _, _ => none
  | k + 1, x2, S =>
    if ia_in i1 5 = true then
    if (S.1 53 i1.toNatClampNeg) ≤ x2 then
    ex x2 S
    else
    zb (f_X12_isDone 55 S) fun r10 S9 =>
    if ¬ r10 = 0 then
    ex x2 S9
    else
    if ia_in ((16 * i1) + x2) 80 = true then
    zl (S9.1 52 ((16 * i1) + x2).toNatClampNeg) fun (y14 : Int32) =>
    zb (f_X12_isStep y14 S9) fun r16 S15 =>
    zl (fun (S20 : zS) =>
    zl (fun (u23 : Unit) =>
    zl (sV S20 41 47 1) fun S24 =>
    if ia_in ((7 * (S24.1 55 64)) + 5) 66 = true then
    zl (fun (S28 : zS) =>
    if ia_in ((7 * (S28.1 55 64)) + 6) 66 = true then
    zl (fun (S32 : zS) =>
    zl (x2 + 1) fun (y33 : Int32) =>
    f_X12_goPlan_L29 ex i1 k y33 S32) fun J31 =>
    if ¬ (S28.1 55 ((7 * (S28.1 55 64)) + 6).toNatClampNeg) = 1 then
    J31 S28
    else
    zl (sV S28 41 45 (x2 + 1)) fun S34 =>
    J31 S34
    else none) fun J27 =>
    if ¬ (S24.1 55 ((7 * (S24.1 55 64)) + 5).toNatClampNeg) = 1 then
    J27 S24
    else
    zl (sV S24 41 44 (x2 + 1)) fun S35 =>
    J27 S35
    else none) fun J22 =>
    if ¬ (S20.1 41 47) = 0 then
    J22 ()
    else
    if ¬ y14 = 2 then
    zl (sV S20 41 47 0) fun S37 =>
    if ia_in ((7 * (S37.1 55 64)) + 5) 66 = true then
    zl (fun (S41 : zS) =>
    if ia_in ((7 * (S41.1 55 64)) + 6) 66 = true then
    zl (fun (S45 : zS) =>
    zl (x2 + 1) fun (y46 : Int32) =>
    f_X12_goPlan_L29 ex i1 k y46 S45) fun J44 =>
    if ¬ (S41.1 55 ((7 * (S41.1 55 64)) + 6).toNatClampNeg) = 1 then
    J44 S41
    else
    zl (sV S41 41 45 (x2 + 1)) fun S47 =>
    J44 S47
    else none) fun J40 =>
    if ¬ (S37.1 55 ((7 * (S37.1 55 64)) + 5).toNatClampNeg) = 1 then
    J40 S37
    else
    zl (sV S37 41 44 (x2 + 1)) fun S48 =>
    J40 S48
    else none
    else
    J22 ()) fun J19 =>
    if r16 = 0 then
    J19 S15
    else
    zb (f_X12_does 55 y14 S15) fun _ S49 =>
    J19 S49
    else none
    else none
def f_X12_goPlan (v1 : Int32) (S : zS) : Option (Unit × zS) :=
zb (f_X12_copy_rw_rw 54 55 S) fun _ S1 =>
zl (sV S1 41 44 (-1)) fun S4 =>
zl (sV S4 41 45 (-1)) fun S5 =>
zl (sV S5 41 47 0) fun S6 =>
f_X12_goPlan_L29 (fun (q53 : Int32) (S52 : zS) =>
zl (sV S52 41 46 ((S52.1 55 65) - (S52.1 54 65))) fun S54 =>
some ((), S54)) v1 zN 0 S6
theorem w_X12_goPlan_L29 {L : Nat} {xs : Nat → Int32} {fm : Bool} {h0 : Nat → va_E} {t : Nat × Nat × Nat} (hn1 : 64 ≤ t.1) (hn2 : t.1 ≤ 1000000) (d : Nat) {ex : Int32 → zS → Option (Unit × zS)} {i1 : Int32} {R : Unit × zS} (hex : ∀ (x2 : Int32) (S : zS) (h : Nat → va_E), zE zDr h0 S (h, t) → ex x2 S = some R → zW (ia_P0 L xs fm) ia_nx (d + 113) 12 false cX12_goPlan 4 (none) 162 [(0, .ref 41), (1, .int i1), (2, .int x2)] [] (h, t) (zQv zDr h0 t R)) : ∀ (k : Nat) (x2 : Int32) (S : zS) (h : Nat → va_E), zE zDr h0 S (h, t) → f_X12_goPlan_L29 ex i1 k x2 S = some R → zW (ia_P0 L xs fm) ia_nx (d + 113) 12 false cX12_goPlan 4 (none) 29 [(0, .ref 41), (1, .int i1), (2, .int x2)] [] (h, t) (zQv zDr h0 t R) := by
  intro k
  induction k with
  | zero => intro x2 S h hE hf; cases hf
  | succ k ih =>
    intro x2 S h hE hf
    unfold f_X12_goPlan_L29 at hf
    refine z_iload_n dX12_goPlan_29 rfl ?_
    refine z_aload_n dX12_goPlan_30 rfl ?_
    refine z_getC dX12_goPlan_31 tF_12_58 hE dr_41 rfl rfl ?_
    refine z_iload_n dX12_goPlan_34 rfl ?_
    obtain ⟨b7, hf⟩ := zchk hf
    refine z_ialoadL dX12_goPlan_35 hE dr_53 b7 rfl ?_
    by_cases c8 : (S.1 53 i1.toNatClampNeg) ≤ x2
    · have hf := zif_t hf c8
      refine z_icmp_ge_t (tgt := 162) dX12_goPlan_36 (by decide) c8 ?_
      exact zW.sub (hex x2 S _ hE hf) [0, 1, 2] rfl rfl rfl rfl
    · have hf := zif_f hf c8
      refine z_icmp_ge_f (tgt := 162) dX12_goPlan_36 (by decide) c8 ?_
      refine z_aload_n dX12_goPlan_39 rfl ?_
      refine z_getC dX12_goPlan_40 tF_12_64 hE dr_41 rfl rfl ?_
      obtain ⟨r10, S9, k11, hf⟩ := zb_some hf
      refine z_callSi dX12_goPlan_43 tM_12_354 (by decide) mt_12053 (Nat.le_of_ble_eq_true rfl) rfl rfl (ia_oks_le hn1 rfl) (Nat.le_of_ble_eq_true rfl) (w_X12_isDone hn1 hn2 (d + 112) rw_55 hE k11) (fun h hE => ?_)
      by_cases c12 : ¬ r10 = 0
      · have hf := zif_t hf c12
        refine z_if_ne_t (tgt := 162) dX12_goPlan_46 (by decide) c12 ?_
        exact zW.sub (hex x2 S9 _ hE hf) [0, 1, 2] rfl rfl rfl rfl
      · have hf := zif_f hf c12
        refine z_if_ne_f (tgt := 162) dX12_goPlan_46 (by decide) c12 ?_
        refine z_aload_n dX12_goPlan_49 rfl ?_
        refine z_getC dX12_goPlan_50 tF_12_55 hE dr_41 rfl rfl ?_
        refine z_bipush (v := 16) dX12_goPlan_53 (by decide) ?_
        refine z_iload_n dX12_goPlan_55 rfl ?_
        refine z_imul dX12_goPlan_56 ?_
        refine z_iload_n dX12_goPlan_57 rfl ?_
        refine z_iadd dX12_goPlan_58 ?_
        obtain ⟨b13, hf⟩ := zchk hf
        refine z_ialoadL dX12_goPlan_59 hE dr_52 b13 rfl ?_
        obtain ⟨y14, ey14, hf⟩ := zl_some hf
        refine z_topi ey14 ?_
        refine z_istore_n (lv' := [(3, .int y14), (0, .ref 41), (1, .int i1), (2, .int x2)]) dX12_goPlan_60 (by decide) rfl ?_
        refine z_aload_n dX12_goPlan_61 rfl ?_
        refine z_iload_n dX12_goPlan_62 rfl ?_
        obtain ⟨r16, S15, k17, hf⟩ := zb_some hf
        refine z_callVi dX12_goPlan_63 tM_12_375 mt_12073 (Nat.le_of_ble_eq_true rfl) rfl rfl (z_recv hE dr_41 rfl) rfl (ia_oks_le hn1 rfl) (Nat.le_of_ble_eq_true rfl) (w_X12_isStep hn1 hn2 (d + 111) hE k17) (fun h hE => ?_)
        obtain ⟨J19, eJ19, hf⟩ := zl_some hf
        have hJ19 : ∀ (S20 : zS) (h : Nat → va_E), zE zDr h0 S20 (h, t) → J19 S20 = some R → zW (ia_P0 L xs fm) ia_nx (d + 113) 12 false cX12_goPlan 4 (none) 78 [(0, .ref 41), (1, .int i1), (2, .int x2), (3, .int y14)] [] (h, t) (zQv zDr h0 t R) := by
          intro S20 h hE hf
          rw [eJ19] at hf
          refine z_aload_n dX12_goPlan_78 rfl ?_
          refine z_aload_n dX12_goPlan_79 rfl ?_
          refine z_getI dX12_goPlan_80 tF_12_414 hE dr_41 rfl rfl ?_
          obtain ⟨J22, eJ22, hf⟩ := zl_some hf
          have hJ22 : ∀ (u23 : Unit) (h : Nat → va_E), zE zDr h0 S20 (h, t) → J22 u23 = some R → zW (ia_P0 L xs fm) ia_nx (d + 113) 12 false cX12_goPlan 4 (none) 91 [(0, .ref 41), (1, .int i1), (2, .int x2), (3, .int y14)] [.ref 41] (h, t) (zQv zDr h0 t R) := by
            intro u23 h hE hf
            rw [eJ22] at hf
            refine z_iconst (v := 1) dX12_goPlan_91 (by decide) ?_
            refine z_goto (tgt := 96) dX12_goPlan_92 (by decide) ?_
            obtain ⟨S24, eS24, hf⟩ := zl_some hf
            refine z_putI dX12_goPlan_96 tF_12_414 hE dr_41 rfl rfl (show ia_fit .boolean (.int 1) = true from by decide) rfl (fun h hE => ?_)
            rw [← eS24] at hE
            refine z_aload_n dX12_goPlan_99 rfl ?_
            refine z_getC dX12_goPlan_100 tF_12_64 hE dr_41 rfl rfl ?_
            refine z_bipush (v := 7) dX12_goPlan_103 (by decide) ?_
            refine z_aload_n dX12_goPlan_105 rfl ?_
            refine z_getC dX12_goPlan_106 tF_12_64 hE dr_41 rfl rfl ?_
            refine z_bipush (v := 64) dX12_goPlan_109 (by decide) ?_
            refine z_ialoadL (i := 64) dX12_goPlan_111 hE dr_55 (by decide) (by decide) ?_
            refine z_imul dX12_goPlan_112 ?_
            refine z_iconst (v := 5) dX12_goPlan_113 (by decide) ?_
            refine z_iadd dX12_goPlan_114 ?_
            obtain ⟨b25, hf⟩ := zchk hf
            refine z_ialoadL dX12_goPlan_115 hE dr_55 b25 rfl ?_
            refine z_iconst (v := 1) dX12_goPlan_116 (by decide) ?_
            obtain ⟨J27, eJ27, hf⟩ := zl_some hf
            have hJ27 : ∀ (S28 : zS) (h : Nat → va_E), zE zDr h0 S28 (h, t) → J27 S28 = some R → zW (ia_P0 L xs fm) ia_nx (d + 113) 12 false cX12_goPlan 4 (none) 127 [(0, .ref 41), (1, .int i1), (2, .int x2), (3, .int y14)] [] (h, t) (zQv zDr h0 t R) := by
              intro S28 h hE hf
              rw [eJ27] at hf
              refine z_aload_n dX12_goPlan_127 rfl ?_
              refine z_getC dX12_goPlan_128 tF_12_64 hE dr_41 rfl rfl ?_
              refine z_bipush (v := 7) dX12_goPlan_131 (by decide) ?_
              refine z_aload_n dX12_goPlan_133 rfl ?_
              refine z_getC dX12_goPlan_134 tF_12_64 hE dr_41 rfl rfl ?_
              refine z_bipush (v := 64) dX12_goPlan_137 (by decide) ?_
              refine z_ialoadL (i := 64) dX12_goPlan_139 hE dr_55 (by decide) (by decide) ?_
              refine z_imul dX12_goPlan_140 ?_
              refine z_bipush (v := 6) dX12_goPlan_141 (by decide) ?_
              refine z_iadd dX12_goPlan_143 ?_
              obtain ⟨b29, hf⟩ := zchk hf
              refine z_ialoadL dX12_goPlan_144 hE dr_55 b29 rfl ?_
              refine z_iconst (v := 1) dX12_goPlan_145 (by decide) ?_
              obtain ⟨J31, eJ31, hf⟩ := zl_some hf
              have hJ31 : ∀ (S32 : zS) (h : Nat → va_E), zE zDr h0 S32 (h, t) → J31 S32 = some R → zW (ia_P0 L xs fm) ia_nx (d + 113) 12 false cX12_goPlan 4 (none) 156 [(0, .ref 41), (1, .int i1), (2, .int x2), (3, .int y14)] [] (h, t) (zQv zDr h0 t R) := by
                intro S32 h hE hf
                rw [eJ31] at hf
                obtain ⟨y33, ey33, hf⟩ := zl_some hf
                refine z_iincY (v := 1) (y := y33) (lv' := [(2, .int y33), (0, .ref 41), (1, .int i1), (3, .int y14)]) dX12_goPlan_156 rfl (by decide) (by decide) ey33 rfl ?_
                refine z_goto (tgt := 29) dX12_goPlan_159 (by decide) ?_
                exact zW.sub (ih y33 S32 _ hE hf) [1, 2, 0] rfl rfl rfl rfl
              by_cases c30 : ¬ (S28.1 55 ((7 * (S28.1 55 64)) + 6).toNatClampNeg) = 1
              · have hf := zif_t hf c30
                refine z_icmp_ne_t (tgt := 156) dX12_goPlan_146 (by decide) c30 ?_
                exact zW.sub (hJ31 S28 _ hE hf) [0, 1, 2, 3] rfl rfl rfl rfl
              · have hf := zif_f hf c30
                refine z_icmp_ne_f (tgt := 156) dX12_goPlan_146 (by decide) c30 ?_
                refine z_aload_n dX12_goPlan_149 rfl ?_
                refine z_iload_n dX12_goPlan_150 rfl ?_
                refine z_iconst (v := 1) dX12_goPlan_151 (by decide) ?_
                refine z_iadd dX12_goPlan_152 ?_
                obtain ⟨S34, eS34, hf⟩ := zl_some hf
                refine z_putI dX12_goPlan_153 tF_12_411 hE dr_41 rfl rfl rfl rfl (fun h hE => ?_)
                rw [← eS34] at hE
                exact zW.sub (hJ31 S34 _ hE hf) [0, 1, 2, 3] rfl rfl rfl rfl
            by_cases c26 : ¬ (S24.1 55 ((7 * (S24.1 55 64)) + 5).toNatClampNeg) = 1
            · have hf := zif_t hf c26
              refine z_icmp_ne_t (tgt := 127) dX12_goPlan_117 (by decide) c26 ?_
              exact zW.sub (hJ27 S24 _ hE hf) [0, 1, 2, 3] rfl rfl rfl rfl
            · have hf := zif_f hf c26
              refine z_icmp_ne_f (tgt := 127) dX12_goPlan_117 (by decide) c26 ?_
              refine z_aload_n dX12_goPlan_120 rfl ?_
              refine z_iload_n dX12_goPlan_121 rfl ?_
              refine z_iconst (v := 1) dX12_goPlan_122 (by decide) ?_
              refine z_iadd dX12_goPlan_123 ?_
              obtain ⟨S35, eS35, hf⟩ := zl_some hf
              refine z_putI dX12_goPlan_124 tF_12_408 hE dr_41 rfl rfl rfl rfl (fun h hE => ?_)
              rw [← eS35] at hE
              exact zW.sub (hJ27 S35 _ hE hf) [0, 1, 2, 3] rfl rfl rfl rfl
          by_cases c21 : ¬ (S20.1 41 47) = 0
          · have hf := zif_t hf c21
            refine z_if_ne_t (tgt := 91) dX12_goPlan_83 (by decide) c21 ?_
            exact zW.sub (hJ22 () _ hE hf) [0, 1, 2, 3] rfl rfl rfl rfl
          · have hf := zif_f hf c21
            refine z_if_ne_f (tgt := 91) dX12_goPlan_83 (by decide) c21 ?_
            refine z_iload_n dX12_goPlan_86 rfl ?_
            refine z_iconst (v := 2) dX12_goPlan_87 (by decide) ?_
            by_cases c36 : ¬ y14 = 2
            · have hf := zif_t hf c36
              refine z_icmp_ne_t (tgt := 95) dX12_goPlan_88 (by decide) c36 ?_
              refine z_iconst (v := 0) dX12_goPlan_95 (by decide) ?_
              obtain ⟨S37, eS37, hf⟩ := zl_some hf
              refine z_putI dX12_goPlan_96 tF_12_414 hE dr_41 rfl rfl (show ia_fit .boolean (.int 0) = true from by decide) rfl (fun h hE => ?_)
              rw [← eS37] at hE
              refine z_aload_n dX12_goPlan_99 rfl ?_
              refine z_getC dX12_goPlan_100 tF_12_64 hE dr_41 rfl rfl ?_
              refine z_bipush (v := 7) dX12_goPlan_103 (by decide) ?_
              refine z_aload_n dX12_goPlan_105 rfl ?_
              refine z_getC dX12_goPlan_106 tF_12_64 hE dr_41 rfl rfl ?_
              refine z_bipush (v := 64) dX12_goPlan_109 (by decide) ?_
              refine z_ialoadL (i := 64) dX12_goPlan_111 hE dr_55 (by decide) (by decide) ?_
              refine z_imul dX12_goPlan_112 ?_
              refine z_iconst (v := 5) dX12_goPlan_113 (by decide) ?_
              refine z_iadd dX12_goPlan_114 ?_
              obtain ⟨b38, hf⟩ := zchk hf
              refine z_ialoadL dX12_goPlan_115 hE dr_55 b38 rfl ?_
              refine z_iconst (v := 1) dX12_goPlan_116 (by decide) ?_
              obtain ⟨J40, eJ40, hf⟩ := zl_some hf
              have hJ40 : ∀ (S41 : zS) (h : Nat → va_E), zE zDr h0 S41 (h, t) → J40 S41 = some R → zW (ia_P0 L xs fm) ia_nx (d + 113) 12 false cX12_goPlan 4 (none) 127 [(0, .ref 41), (1, .int i1), (2, .int x2), (3, .int y14)] [] (h, t) (zQv zDr h0 t R) := by
                intro S41 h hE hf
                rw [eJ40] at hf
                refine z_aload_n dX12_goPlan_127 rfl ?_
                refine z_getC dX12_goPlan_128 tF_12_64 hE dr_41 rfl rfl ?_
                refine z_bipush (v := 7) dX12_goPlan_131 (by decide) ?_
                refine z_aload_n dX12_goPlan_133 rfl ?_
                refine z_getC dX12_goPlan_134 tF_12_64 hE dr_41 rfl rfl ?_
                refine z_bipush (v := 64) dX12_goPlan_137 (by decide) ?_
                refine z_ialoadL (i := 64) dX12_goPlan_139 hE dr_55 (by decide) (by decide) ?_
                refine z_imul dX12_goPlan_140 ?_
                refine z_bipush (v := 6) dX12_goPlan_141 (by decide) ?_
                refine z_iadd dX12_goPlan_143 ?_
                obtain ⟨b42, hf⟩ := zchk hf
                refine z_ialoadL dX12_goPlan_144 hE dr_55 b42 rfl ?_
                refine z_iconst (v := 1) dX12_goPlan_145 (by decide) ?_
                obtain ⟨J44, eJ44, hf⟩ := zl_some hf
                have hJ44 : ∀ (S45 : zS) (h : Nat → va_E), zE zDr h0 S45 (h, t) → J44 S45 = some R → zW (ia_P0 L xs fm) ia_nx (d + 113) 12 false cX12_goPlan 4 (none) 156 [(0, .ref 41), (1, .int i1), (2, .int x2), (3, .int y14)] [] (h, t) (zQv zDr h0 t R) := by
                  intro S45 h hE hf
                  rw [eJ44] at hf
                  obtain ⟨y46, ey46, hf⟩ := zl_some hf
                  refine z_iincY (v := 1) (y := y46) (lv' := [(2, .int y46), (0, .ref 41), (1, .int i1), (3, .int y14)]) dX12_goPlan_156 rfl (by decide) (by decide) ey46 rfl ?_
                  refine z_goto (tgt := 29) dX12_goPlan_159 (by decide) ?_
                  exact zW.sub (ih y46 S45 _ hE hf) [1, 2, 0] rfl rfl rfl rfl
                by_cases c43 : ¬ (S41.1 55 ((7 * (S41.1 55 64)) + 6).toNatClampNeg) = 1
                · have hf := zif_t hf c43
                  refine z_icmp_ne_t (tgt := 156) dX12_goPlan_146 (by decide) c43 ?_
                  exact zW.sub (hJ44 S41 _ hE hf) [0, 1, 2, 3] rfl rfl rfl rfl
                · have hf := zif_f hf c43
                  refine z_icmp_ne_f (tgt := 156) dX12_goPlan_146 (by decide) c43 ?_
                  refine z_aload_n dX12_goPlan_149 rfl ?_
                  refine z_iload_n dX12_goPlan_150 rfl ?_
                  refine z_iconst (v := 1) dX12_goPlan_151 (by decide) ?_
                  refine z_iadd dX12_goPlan_152 ?_
                  obtain ⟨S47, eS47, hf⟩ := zl_some hf
                  refine z_putI dX12_goPlan_153 tF_12_411 hE dr_41 rfl rfl rfl rfl (fun h hE => ?_)
                  rw [← eS47] at hE
                  exact zW.sub (hJ44 S47 _ hE hf) [0, 1, 2, 3] rfl rfl rfl rfl
              by_cases c39 : ¬ (S37.1 55 ((7 * (S37.1 55 64)) + 5).toNatClampNeg) = 1
              · have hf := zif_t hf c39
                refine z_icmp_ne_t (tgt := 127) dX12_goPlan_117 (by decide) c39 ?_
                exact zW.sub (hJ40 S37 _ hE hf) [0, 1, 2, 3] rfl rfl rfl rfl
              · have hf := zif_f hf c39
                refine z_icmp_ne_f (tgt := 127) dX12_goPlan_117 (by decide) c39 ?_
                refine z_aload_n dX12_goPlan_120 rfl ?_
                refine z_iload_n dX12_goPlan_121 rfl ?_
                refine z_iconst (v := 1) dX12_goPlan_122 (by decide) ?_
                refine z_iadd dX12_goPlan_123 ?_
                obtain ⟨S48, eS48, hf⟩ := zl_some hf
                refine z_putI dX12_goPlan_124 tF_12_408 hE dr_41 rfl rfl rfl rfl (fun h hE => ?_)
                rw [← eS48] at hE
                exact zW.sub (hJ40 S48 _ hE hf) [0, 1, 2, 3] rfl rfl rfl rfl
            · have hf := zif_f hf c36
              refine z_icmp_ne_f (tgt := 95) dX12_goPlan_88 (by decide) c36 ?_
              exact zW.sub (hJ22 () _ hE hf) [0, 1, 2, 3] rfl rfl rfl rfl
        by_cases c18 : r16 = 0
        · have hf := zif_t hf c18
          refine z_if_eq_t (tgt := 78) dX12_goPlan_66 (by decide) c18 ?_
          exact zW.sub (hJ19 S15 _ hE hf) [1, 2, 3, 0] rfl rfl rfl rfl
        · have hf := zif_f hf c18
          refine z_if_eq_f (tgt := 78) dX12_goPlan_66 (by decide) c18 ?_
          refine z_aload_n dX12_goPlan_69 rfl ?_
          refine z_aload_n dX12_goPlan_70 rfl ?_
          refine z_getC dX12_goPlan_71 tF_12_64 hE dr_41 rfl rfl ?_
          refine z_iload_n dX12_goPlan_74 rfl ?_
          obtain ⟨r50, S49, k51, hf⟩ := zb_some hf
          refine z_callVv dX12_goPlan_75 tM_12_382 mt_12074 (Nat.le_of_ble_eq_true rfl) rfl rfl (z_recv hE dr_41 rfl) rfl (ia_oks_le hn1 rfl) (Nat.le_of_ble_eq_true rfl) (w_X12_does hn1 hn2 (d + 0) rw_55 hE k51) (fun h hE => ?_)
          exact zW.sub (hJ19 S49 _ hE hf) [1, 2, 3, 0] rfl rfl rfl rfl
theorem w_X12_goPlan {L : Nat} {xs : Nat → Int32} {fm : Bool} {h0 : Nat → va_E} {t : Nat × Nat × Nat} (hn1 : 64 ≤ t.1) (hn2 : t.1 ≤ 1000000) (d : Nat) {h : Nat → va_E} {S : zS} (hE : zE zDr h0 S (h, t)) {v1 : Int32} {R : Unit × zS} (hf : f_X12_goPlan v1 S = some R) : zC (ia_P0 L xs fm) (d + 114) 12081 [.ref 41, .int v1] (h, t) (zQv zDr h0 t R) := by
  refine zC_of mt_12081 nn_12081 (Nat.le_of_ble_eq_true rfl) ?_
  refine zW_lv (lv' := [(0, .ref 41), (1, .int v1)]) rfl ?_
  unfold f_X12_goPlan at hf
  refine z_aload_n dX12_goPlan_0 rfl ?_
  refine z_aload_n dX12_goPlan_1 rfl ?_
  refine z_getC dX12_goPlan_2 tF_12_61 hE dr_41 rfl rfl ?_
  refine z_aload_n dX12_goPlan_5 rfl ?_
  refine z_getC dX12_goPlan_6 tF_12_64 hE dr_41 rfl rfl ?_
  obtain ⟨r2, S1, k3, hf⟩ := zb_some hf
  refine z_callVv dX12_goPlan_9 tM_12_404 mt_12079 (Nat.le_of_ble_eq_true rfl) rfl rfl (z_recv hE dr_41 rfl) rfl (ia_oks_le hn1 rfl) (Nat.le_of_ble_eq_true rfl) (w_X12_copy_rw_rw hn1 hn2 (d + 112) rw_54 rw_55 hE k3) (fun h hE => ?_)
  refine z_aload_n dX12_goPlan_12 rfl ?_
  refine z_iconst (v := (-1)) dX12_goPlan_13 (by decide) ?_
  obtain ⟨S4, eS4, hf⟩ := zl_some hf
  refine z_putI dX12_goPlan_14 tF_12_408 hE dr_41 rfl rfl rfl rfl (fun h hE => ?_)
  rw [← eS4] at hE
  refine z_aload_n dX12_goPlan_17 rfl ?_
  refine z_iconst (v := (-1)) dX12_goPlan_18 (by decide) ?_
  obtain ⟨S5, eS5, hf⟩ := zl_some hf
  refine z_putI dX12_goPlan_19 tF_12_411 hE dr_41 rfl rfl rfl rfl (fun h hE => ?_)
  rw [← eS5] at hE
  refine z_aload_n dX12_goPlan_22 rfl ?_
  refine z_iconst (v := 0) dX12_goPlan_23 (by decide) ?_
  obtain ⟨S6, eS6, hf⟩ := zl_some hf
  refine z_putI dX12_goPlan_24 tF_12_414 hE dr_41 rfl rfl (show ia_fit .boolean (.int 0) = true from by decide) rfl (fun h hE => ?_)
  rw [← eS6] at hE
  refine z_iconst (v := 0) dX12_goPlan_27 (by decide) ?_
  refine z_istore_n (lv' := [(2, .int 0), (0, .ref 41), (1, .int v1)]) dX12_goPlan_28 (by decide) rfl ?_
  refine zW.sub (w_X12_goPlan_L29 hn1 hn2 d (fun q53 S52 h hE hf => ?_) zN 0 S6 h hE hf) [1, 2, 0] rfl rfl rfl rfl
  try dsimp only at hf
  refine z_aload_n dX12_goPlan_162 rfl ?_
  refine z_aload_n dX12_goPlan_163 rfl ?_
  refine z_getC dX12_goPlan_164 tF_12_64 hE dr_41 rfl rfl ?_
  refine z_bipush (v := 65) dX12_goPlan_167 (by decide) ?_
  refine z_ialoadL (i := 65) dX12_goPlan_169 hE dr_55 (by decide) (by decide) ?_
  refine z_aload_n dX12_goPlan_170 rfl ?_
  refine z_getC dX12_goPlan_171 tF_12_61 hE dr_41 rfl rfl ?_
  refine z_bipush (v := 65) dX12_goPlan_174 (by decide) ?_
  refine z_ialoadL (i := 65) dX12_goPlan_176 hE dr_54 (by decide) (by decide) ?_
  refine z_isub dX12_goPlan_177 ?_
  obtain ⟨S54, eS54, hf⟩ := zl_some hf
  refine z_putI dX12_goPlan_178 tF_12_417 hE dr_41 rfl rfl rfl rfl (fun h hE => ?_)
  rw [← eS54] at hE
  have e_ := Option.some.inj hf
  subst e_
  exact z_vreturn dX12_goPlan_181 rfl ⟨h, rfl, rfl, hE⟩
def f_X12_run (v1 : Int32) (v2 : Int32) (S : zS) : Option (Int32 × zS) :=
zl (sV S 41 0 0) fun S1 =>
zb (f_X12_canWork S1) fun r3 S2 =>
if r3 = 0 then
some ((-1), S2)
else
zb (f_X12_isIn (v1.toInt64) 0 (((S2.1 41 32) - 1).toInt64) S2) fun r7 S6 =>
if r7 = 0 then
some ((-1), S6)
else
zb (f_X12_isIn (v2.toInt64) 0 2 S6) fun r11 S10 =>
if ¬ r11 = 0 then
zb (f_X12_goPlan v1 S10) fun _ S14 =>
if ¬ v2 = 0 then
if ¬ v2 = 1 then
some (S14.1 41 46, S14)
else
some (S14.1 41 45, S14)
else
some (S14.1 41 44, S14)
else
some ((-1), S10)
theorem w_X12_run {L : Nat} {xs : Nat → Int32} {fm : Bool} {h0 : Nat → va_E} {t : Nat × Nat × Nat} (hn1 : 64 ≤ t.1) (hn2 : t.1 ≤ 1000000) (d : Nat) {h : Nat → va_E} {S : zS} (hE : zE zDr h0 S (h, t)) {v1 : Int32} {v2 : Int32} {R : Int32 × zS} (hf : f_X12_run v1 v2 S = some R) : zC (ia_P0 L xs fm) (d + 115) 12080 [.ref 41, .int v1, .int v2] (h, t) (zQi zDr h0 t R) := by
  refine zC_of mt_12080 nn_12080 (Nat.le_of_ble_eq_true rfl) ?_
  refine zW_lv (lv' := [(0, .ref 41), (1, .int v1), (2, .int v2)]) rfl ?_
  unfold f_X12_run at hf
  refine z_aload_n dX12_run_0 rfl ?_
  refine z_iconst (v := 0) dX12_run_1 (by decide) ?_
  obtain ⟨S1, eS1, hf⟩ := zl_some hf
  refine z_putI dX12_run_2 tF_12_93 hE dr_41 rfl rfl rfl rfl (fun h hE => ?_)
  rw [← eS1] at hE
  refine z_aload_n dX12_run_5 rfl ?_
  obtain ⟨r3, S2, k4, hf⟩ := zb_some hf
  refine z_callVi dX12_run_6 tM_12_364 mt_12058 (Nat.le_of_ble_eq_true rfl) rfl rfl (z_recv hE dr_41 rfl) rfl (ia_oks_le hn1 rfl) (Nat.le_of_ble_eq_true rfl) (w_X12_canWork hn1 hn2 (d + 112) hE k4) (fun h hE => ?_)
  by_cases c5 : r3 = 0
  · have hf := zif_t hf c5
    refine z_if_eq_t (tgt := 40) dX12_run_9 (by decide) c5 ?_
    refine z_iconst (v := (-1)) dX12_run_40 (by decide) ?_
    have e_ := Option.some.inj hf
    subst e_
    exact z_ireturn dX12_run_41 rfl ⟨h, rfl, rfl, hE⟩
  · have hf := zif_f hf c5
    refine z_if_eq_f (tgt := 40) dX12_run_9 (by decide) c5 ?_
    refine z_iload_n dX12_run_12 rfl ?_
    refine z_i2l dX12_run_13 ?_
    refine z_lconst (v := 0) dX12_run_14 (by decide) ?_
    refine z_aload_n dX12_run_15 rfl ?_
    refine z_getI dX12_run_16 tF_12_280 hE dr_41 rfl rfl ?_
    refine z_iconst (v := 1) dX12_run_19 (by decide) ?_
    refine z_isub dX12_run_20 ?_
    refine z_i2l dX12_run_21 ?_
    obtain ⟨r7, S6, k8, hf⟩ := zb_some hf
    refine z_callSi dX12_run_22 tM_12_214 (by decide) mt_12007 (Nat.le_of_ble_eq_true rfl) rfl rfl (ia_oks_le hn1 rfl) (Nat.le_of_ble_eq_true rfl) (w_X12_isIn hn1 hn2 (d + 113) hE k8) (fun h hE => ?_)
    by_cases c9 : r7 = 0
    · have hf := zif_t hf c9
      refine z_if_eq_t (tgt := 40) dX12_run_25 (by decide) c9 ?_
      refine z_iconst (v := (-1)) dX12_run_40 (by decide) ?_
      have e_ := Option.some.inj hf
      subst e_
      exact z_ireturn dX12_run_41 rfl ⟨h, rfl, rfl, hE⟩
    · have hf := zif_f hf c9
      refine z_if_eq_f (tgt := 40) dX12_run_25 (by decide) c9 ?_
      refine z_iload_n dX12_run_28 rfl ?_
      refine z_i2l dX12_run_29 ?_
      refine z_lconst (v := 0) dX12_run_30 (by decide) ?_
      refine z_ldc2 dX12_run_31 tK_12_266 ?_
      obtain ⟨r11, S10, k12, hf⟩ := zb_some hf
      refine z_callSi dX12_run_34 tM_12_214 (by decide) mt_12007 (Nat.le_of_ble_eq_true rfl) rfl rfl (ia_oks_le hn1 rfl) (Nat.le_of_ble_eq_true rfl) (w_X12_isIn hn1 hn2 (d + 113) hE k12) (fun h hE => ?_)
      by_cases c13 : ¬ r11 = 0
      · have hf := zif_t hf c13
        refine z_if_ne_t (tgt := 42) dX12_run_37 (by decide) c13 ?_
        refine z_aload_n dX12_run_42 rfl ?_
        refine z_iload_n dX12_run_43 rfl ?_
        obtain ⟨r15, S14, k16, hf⟩ := zb_some hf
        refine z_callVv dX12_run_44 tM_12_420 mt_12081 (Nat.le_of_ble_eq_true rfl) rfl rfl (z_recv hE dr_41 rfl) rfl (ia_oks_le hn1 rfl) (Nat.le_of_ble_eq_true rfl) (w_X12_goPlan hn1 hn2 (d + 0) hE k16) (fun h hE => ?_)
        refine z_iload_n dX12_run_47 rfl ?_
        by_cases c17 : ¬ v2 = 0
        · have hf := zif_t hf c17
          refine z_if_ne_t (tgt := 58) dX12_run_48 (by decide) c17 ?_
          refine z_iload_n dX12_run_58 rfl ?_
          refine z_iconst (v := 1) dX12_run_59 (by decide) ?_
          by_cases c18 : ¬ v2 = 1
          · have hf := zif_t hf c18
            refine z_icmp_ne_t (tgt := 70) dX12_run_60 (by decide) c18 ?_
            refine z_aload_n dX12_run_70 rfl ?_
            refine z_getI dX12_run_71 tF_12_417 hE dr_41 rfl rfl ?_
            have e_ := Option.some.inj hf
            subst e_
            exact z_ireturn dX12_run_74 rfl ⟨h, rfl, rfl, hE⟩
          · have hf := zif_f hf c18
            refine z_icmp_ne_f (tgt := 70) dX12_run_60 (by decide) c18 ?_
            refine z_aload_n dX12_run_63 rfl ?_
            refine z_getI dX12_run_64 tF_12_411 hE dr_41 rfl rfl ?_
            refine z_goto (tgt := 74) dX12_run_67 (by decide) ?_
            have e_ := Option.some.inj hf
            subst e_
            exact z_ireturn dX12_run_74 rfl ⟨h, rfl, rfl, hE⟩
        · have hf := zif_f hf c17
          refine z_if_ne_f (tgt := 58) dX12_run_48 (by decide) c17 ?_
          refine z_aload_n dX12_run_51 rfl ?_
          refine z_getI dX12_run_52 tF_12_408 hE dr_41 rfl rfl ?_
          refine z_goto (tgt := 74) dX12_run_55 (by decide) ?_
          have e_ := Option.some.inj hf
          subst e_
          exact z_ireturn dX12_run_74 rfl ⟨h, rfl, rfl, hE⟩
      · have hf := zif_f hf c13
        refine z_if_ne_f (tgt := 42) dX12_run_37 (by decide) c13 ?_
        refine z_iconst (v := (-1)) dX12_run_40 (by decide) ?_
        have e_ := Option.some.inj hf
        subst e_
        exact z_ireturn dX12_run_41 rfl ⟨h, rfl, rfl, hE⟩
def f_X12_best_L21 (ex : Int32 → Int32 → Int32 → zS → Option (Int32 × zS)) (i1 : Int32) : Nat → Int32 → Int32 → Int32 → zS → Option (Int32 × zS)
  | 0, _, _, _, _ => none
  | k + 1, x2, x3, x4, S =>
    if (S.1 41 32) ≤ x4 then
    ex x2 x3 x4 S
    else
    zb (f_X12_goPlan x4 S) fun _ S7 =>
    zl (fun (q12 : Int32) (q13 : Int32) =>
    zl (x4 + 1) fun (y14 : Int32) =>
    f_X12_best_L21 ex i1 k q12 q13 y14 S7) fun J11 =>
    if (S7.1 41 44) = (-1) then
    J11 x2 x3
    else
    zl (fun (u17 : Unit) =>
    zl (fun (u20 : Unit) =>
    zl (S7.1 41 46) fun (y21 : Int32) =>
    J11 x4 y21) fun J19 =>
    if x2 = (-1) then
    J19 ()
    else
    if (S7.1 41 46) < x3 then
    J19 ()
    else
    J11 x2 x3) fun J16 =>
    if (S7.1 41 47) = 0 then
    J16 ()
    else
    if i1 = 0 then
    J11 x2 x3
    else
    J16 ()
def f_X12_best (v1 : Int32) (S : zS) : Option (Int32 × zS) :=
zl (sV S 41 0 0) fun S1 =>
zb (f_X12_canWork S1) fun r3 S2 =>
if ¬ r3 = 0 then
f_X12_best_L21 (fun (q25 : Int32) (q26 : Int32) (q27 : Int32) (S24 : zS) =>
some (q25, S24)) v1 zN (-1) 0 0 S2
else
some ((-1), S2)
theorem w_X12_best_L21 {L : Nat} {xs : Nat → Int32} {fm : Bool} {h0 : Nat → va_E} {t : Nat × Nat × Nat} (hn1 : 64 ≤ t.1) (hn2 : t.1 ≤ 1000000) (d : Nat) {ex : Int32 → Int32 → Int32 → zS → Option (Int32 × zS)} {i1 : Int32} {R : Int32 × zS} (hex : ∀ (x2 : Int32) (x3 : Int32) (x4 : Int32) (S : zS) (h : Nat → va_E), zE zDr h0 S (h, t) → ex x2 x3 x4 S = some R → zW (ia_P0 L xs fm) ia_nx (d + 114) 12 false cX12_best 5 (some .int) 85 [(0, .ref 41), (1, .int i1), (2, .int x2), (3, .int x3), (4, .int x4)] [] (h, t) (zQi zDr h0 t R)) : ∀ (k : Nat) (x2 : Int32) (x3 : Int32) (x4 : Int32) (S : zS) (h : Nat → va_E), zE zDr h0 S (h, t) → f_X12_best_L21 ex i1 k x2 x3 x4 S = some R → zW (ia_P0 L xs fm) ia_nx (d + 114) 12 false cX12_best 5 (some .int) 21 [(0, .ref 41), (1, .int i1), (2, .int x2), (3, .int x3), (4, .int x4)] [] (h, t) (zQi zDr h0 t R) := by
  intro k
  induction k with
  | zero => intro x2 x3 x4 S h hE hf; cases hf
  | succ k ih =>
    intro x2 x3 x4 S h hE hf
    unfold f_X12_best_L21 at hf
    refine z_iload dX12_best_21 rfl ?_
    refine z_aload_n dX12_best_23 rfl ?_
    refine z_getI dX12_best_24 tF_12_280 hE dr_41 rfl rfl ?_
    by_cases c6 : (S.1 41 32) ≤ x4
    · have hf := zif_t hf c6
      refine z_icmp_ge_t (tgt := 85) dX12_best_27 (by decide) c6 ?_
      exact zW.sub (hex x2 x3 x4 S _ hE hf) [0, 1, 2, 3, 4] rfl rfl rfl rfl
    · have hf := zif_f hf c6
      refine z_icmp_ge_f (tgt := 85) dX12_best_27 (by decide) c6 ?_
      refine z_aload_n dX12_best_30 rfl ?_
      refine z_iload dX12_best_31 rfl ?_
      obtain ⟨r8, S7, k9, hf⟩ := zb_some hf
      refine z_callVv dX12_best_33 tM_12_420 mt_12081 (Nat.le_of_ble_eq_true rfl) rfl rfl (z_recv hE dr_41 rfl) rfl (ia_oks_le hn1 rfl) (Nat.le_of_ble_eq_true rfl) (w_X12_goPlan hn1 hn2 (d + 0) hE k9) (fun h hE => ?_)
      refine z_aload_n dX12_best_36 rfl ?_
      refine z_getI dX12_best_37 tF_12_408 hE dr_41 rfl rfl ?_
      refine z_iconst (v := (-1)) dX12_best_40 (by decide) ?_
      obtain ⟨J11, eJ11, hf⟩ := zl_some hf
      have hJ11 : ∀ (q12 : Int32) (q13 : Int32) (h : Nat → va_E), zE zDr h0 S7 (h, t) → J11 q12 q13 = some R → zW (ia_P0 L xs fm) ia_nx (d + 114) 12 false cX12_best 5 (some .int) 79 [(0, .ref 41), (1, .int i1), (2, .int q12), (3, .int q13), (4, .int x4)] [] (h, t) (zQi zDr h0 t R) := by
        intro q12 q13 h hE hf
        rw [eJ11] at hf
        obtain ⟨y14, ey14, hf⟩ := zl_some hf
        refine z_iincY (v := 1) (y := y14) (lv' := [(4, .int y14), (0, .ref 41), (1, .int i1), (2, .int q12), (3, .int q13)]) dX12_best_79 rfl (by decide) (by decide) ey14 rfl ?_
        refine z_goto (tgt := 21) dX12_best_82 (by decide) ?_
        exact zW.sub (ih q12 q13 y14 S7 _ hE hf) [1, 2, 3, 4, 0] rfl rfl rfl rfl
      by_cases c10 : (S7.1 41 44) = (-1)
      · have hf := zif_t hf c10
        refine z_icmp_eq_t (tgt := 79) dX12_best_41 (by decide) c10 ?_
        exact zW.sub (hJ11 x2 x3 _ hE hf) [0, 1, 2, 3, 4] rfl rfl rfl rfl
      · have hf := zif_f hf c10
        refine z_icmp_eq_f (tgt := 79) dX12_best_41 (by decide) c10 ?_
        refine z_aload_n dX12_best_44 rfl ?_
        refine z_getI dX12_best_45 tF_12_414 hE dr_41 rfl rfl ?_
        obtain ⟨J16, eJ16, hf⟩ := zl_some hf
        have hJ16 : ∀ (u17 : Unit) (h : Nat → va_E), zE zDr h0 S7 (h, t) → J16 u17 = some R → zW (ia_P0 L xs fm) ia_nx (d + 114) 12 false cX12_best 5 (some .int) 55 [(0, .ref 41), (1, .int i1), (2, .int x2), (3, .int x3), (4, .int x4)] [] (h, t) (zQi zDr h0 t R) := by
          intro u17 h hE hf
          rw [eJ16] at hf
          refine z_iload_n dX12_best_55 rfl ?_
          refine z_iconst (v := (-1)) dX12_best_56 (by decide) ?_
          obtain ⟨J19, eJ19, hf⟩ := zl_some hf
          have hJ19 : ∀ (u20 : Unit) (h : Nat → va_E), zE zDr h0 S7 (h, t) → J19 u20 = some R → zW (ia_P0 L xs fm) ia_nx (d + 114) 12 false cX12_best 5 (some .int) 71 [(0, .ref 41), (1, .int i1), (2, .int x2), (3, .int x3), (4, .int x4)] [] (h, t) (zQi zDr h0 t R) := by
            intro u20 h hE hf
            rw [eJ19] at hf
            refine z_iload dX12_best_71 rfl ?_
            refine z_istore_n (lv' := [(2, .int x4), (0, .ref 41), (1, .int i1), (3, .int x3), (4, .int x4)]) dX12_best_73 (by decide) rfl ?_
            refine z_aload_n dX12_best_74 rfl ?_
            refine z_getI dX12_best_75 tF_12_417 hE dr_41 rfl rfl ?_
            obtain ⟨y21, ey21, hf⟩ := zl_some hf
            refine z_topi ey21 ?_
            refine z_istore_n (lv' := [(3, .int y21), (2, .int x4), (0, .ref 41), (1, .int i1), (4, .int x4)]) dX12_best_78 (by decide) rfl ?_
            exact zW.sub (hJ11 x4 y21 _ hE hf) [2, 3, 1, 0, 4] rfl rfl rfl rfl
          by_cases c18 : x2 = (-1)
          · have hf := zif_t hf c18
            refine z_icmp_eq_t (tgt := 71) dX12_best_57 (by decide) c18 ?_
            exact zW.sub (hJ19 () _ hE hf) [0, 1, 2, 3, 4] rfl rfl rfl rfl
          · have hf := zif_f hf c18
            refine z_icmp_eq_f (tgt := 71) dX12_best_57 (by decide) c18 ?_
            refine z_aload_n dX12_best_60 rfl ?_
            refine z_getI dX12_best_61 tF_12_417 hE dr_41 rfl rfl ?_
            refine z_iload_n dX12_best_64 rfl ?_
            by_cases c22 : (S7.1 41 46) < x3
            · have hf := zif_t hf c22
              refine z_icmp_lt_t (tgt := 71) dX12_best_65 (by decide) c22 ?_
              exact zW.sub (hJ19 () _ hE hf) [0, 1, 2, 3, 4] rfl rfl rfl rfl
            · have hf := zif_f hf c22
              refine z_icmp_lt_f (tgt := 71) dX12_best_65 (by decide) c22 ?_
              refine z_goto (tgt := 79) dX12_best_68 (by decide) ?_
              exact zW.sub (hJ11 x2 x3 _ hE hf) [0, 1, 2, 3, 4] rfl rfl rfl rfl
        by_cases c15 : (S7.1 41 47) = 0
        · have hf := zif_t hf c15
          refine z_if_eq_t (tgt := 55) dX12_best_48 (by decide) c15 ?_
          exact zW.sub (hJ16 () _ hE hf) [0, 1, 2, 3, 4] rfl rfl rfl rfl
        · have hf := zif_f hf c15
          refine z_if_eq_f (tgt := 55) dX12_best_48 (by decide) c15 ?_
          refine z_iload_n dX12_best_51 rfl ?_
          by_cases c23 : i1 = 0
          · have hf := zif_t hf c23
            refine z_if_eq_t (tgt := 79) dX12_best_52 (by decide) c23 ?_
            exact zW.sub (hJ11 x2 x3 _ hE hf) [0, 1, 2, 3, 4] rfl rfl rfl rfl
          · have hf := zif_f hf c23
            refine z_if_eq_f (tgt := 79) dX12_best_52 (by decide) c23 ?_
            exact zW.sub (hJ16 () _ hE hf) [0, 1, 2, 3, 4] rfl rfl rfl rfl
theorem w_X12_best {L : Nat} {xs : Nat → Int32} {fm : Bool} {h0 : Nat → va_E} {t : Nat × Nat × Nat} (hn1 : 64 ≤ t.1) (hn2 : t.1 ≤ 1000000) (d : Nat) {h : Nat → va_E} {S : zS} (hE : zE zDr h0 S (h, t)) {v1 : Int32} {R : Int32 × zS} (hf : f_X12_best v1 S = some R) : zC (ia_P0 L xs fm) (d + 115) 12082 [.ref 41, .int v1] (h, t) (zQi zDr h0 t R) := by
  refine zC_of mt_12082 nn_12082 (Nat.le_of_ble_eq_true rfl) ?_
  refine zW_lv (lv' := [(0, .ref 41), (1, .int v1)]) rfl ?_
  unfold f_X12_best at hf
  refine z_aload_n dX12_best_0 rfl ?_
  refine z_iconst (v := 0) dX12_best_1 (by decide) ?_
  obtain ⟨S1, eS1, hf⟩ := zl_some hf
  refine z_putI dX12_best_2 tF_12_93 hE dr_41 rfl rfl rfl rfl (fun h hE => ?_)
  rw [← eS1] at hE
  refine z_aload_n dX12_best_5 rfl ?_
  obtain ⟨r3, S2, k4, hf⟩ := zb_some hf
  refine z_callVi dX12_best_6 tM_12_364 mt_12058 (Nat.le_of_ble_eq_true rfl) rfl rfl (z_recv hE dr_41 rfl) rfl (ia_oks_le hn1 rfl) (Nat.le_of_ble_eq_true rfl) (w_X12_canWork hn1 hn2 (d + 112) hE k4) (fun h hE => ?_)
  by_cases c5 : ¬ r3 = 0
  · have hf := zif_t hf c5
    refine z_if_ne_t (tgt := 14) dX12_best_9 (by decide) c5 ?_
    refine z_iconst (v := (-1)) dX12_best_14 (by decide) ?_
    refine z_istore_n (lv' := [(2, .int (-1)), (0, .ref 41), (1, .int v1)]) dX12_best_15 (by decide) rfl ?_
    refine z_iconst (v := 0) dX12_best_16 (by decide) ?_
    refine z_istore_n (lv' := [(3, .int 0), (2, .int (-1)), (0, .ref 41), (1, .int v1)]) dX12_best_17 (by decide) rfl ?_
    refine z_iconst (v := 0) dX12_best_18 (by decide) ?_
    refine z_istore (lv' := [(4, .int 0), (3, .int 0), (2, .int (-1)), (0, .ref 41), (1, .int v1)]) dX12_best_19 (by decide) rfl ?_
    refine zW.sub (w_X12_best_L21 hn1 hn2 d (fun q25 q26 q27 S24 h hE hf => ?_) zN (-1) 0 0 S2 h hE hf) [3, 4, 2, 1, 0] rfl rfl rfl rfl
    try dsimp only at hf
    refine z_iload_n dX12_best_85 rfl ?_
    have e_ := Option.some.inj hf
    subst e_
    exact z_ireturn dX12_best_86 rfl ⟨h, rfl, rfl, hE⟩
  · have hf := zif_f hf c5
    refine z_if_ne_f (tgt := 14) dX12_best_9 (by decide) c5 ?_
    refine z_iconst (v := (-1)) dX12_best_12 (by decide) ?_
    have e_ := Option.some.inj hf
    subst e_
    exact z_ireturn dX12_best_13 rfl ⟨h, rfl, rfl, hE⟩
def f_X12_setDoes_L14 (ex : Int32 → zS → Option (Int32 × zS)) (i1 : Int32) : Nat → Int32 → zS → Option (Int32 × zS)
  | 0, _, _ => none
  | k + 1, x2, S =>
    if (S.1 41 25) ≤ x2 then
    ex x2 S
    else
    zb (f_X12_isDone 55 S) fun r6 S5 =>
    if ¬ r6 = 0 then
    ex x2 S5
    else
    zb (f_X12_has i1 x2 S5) fun r10 S9 =>
    zl (fun (S14 : zS) =>
    zl (x2 + 1) fun (y15 : Int32) =>
    f_X12_setDoes_L14 ex i1 k y15 S14) fun J13 =>
    if r10 = 0 then
    J13 S9
    else
    if ia_in ((6 * (S9.1 55 64)) + 3) 24 = true then
    zb (f_X12_turns 55 x2 (-1) (S9.1 46 ((6 * (S9.1 55 64)) + 3).toNatClampNeg) 0 S9) fun _ S17 =>
    J13 S17
    else none
def f_X12_setDoes (v1 : Int32) (S : zS) : Option (Int32 × zS) :=
zb (f_X12_copy_rw_rw 54 55 S) fun _ S1 =>
f_X12_setDoes_L14 (fun (q21 : Int32) (S20 : zS) =>
if ia_in ((7 * (S20.1 55 64)) + 5) 66 = true then
if ¬ (S20.1 55 ((7 * (S20.1 55 64)) + 5).toNatClampNeg) = 1 then
some (0, S20)
else
some (1, S20)
else none) v1 zN 0 S1
theorem w_X12_setDoes_L14 {L : Nat} {xs : Nat → Int32} {fm : Bool} {h0 : Nat → va_E} {t : Nat × Nat × Nat} (hn1 : 64 ≤ t.1) (hn2 : t.1 ≤ 1000000) (d : Nat) {ex : Int32 → zS → Option (Int32 × zS)} {i1 : Int32} {R : Int32 × zS} (hex : ∀ (x2 : Int32) (S : zS) (h : Nat → va_E), zE zDr h0 S (h, t) → ex x2 S = some R → zW (ia_P0 L xs fm) ia_nx (d + 112) 12 false cX12_setDoes 3 (some .boolean) 74 [(0, .ref 41), (1, .int i1), (2, .int x2)] [] (h, t) (zQi zDr h0 t R)) : ∀ (k : Nat) (x2 : Int32) (S : zS) (h : Nat → va_E), zE zDr h0 S (h, t) → f_X12_setDoes_L14 ex i1 k x2 S = some R → zW (ia_P0 L xs fm) ia_nx (d + 112) 12 false cX12_setDoes 3 (some .boolean) 14 [(0, .ref 41), (1, .int i1), (2, .int x2)] [] (h, t) (zQi zDr h0 t R) := by
  intro k
  induction k with
  | zero => intro x2 S h hE hf; cases hf
  | succ k ih =>
    intro x2 S h hE hf
    unfold f_X12_setDoes_L14 at hf
    refine z_iload_n dX12_setDoes_14 rfl ?_
    refine z_aload_n dX12_setDoes_15 rfl ?_
    refine z_getI dX12_setDoes_16 tF_12_288 hE dr_41 rfl rfl ?_
    by_cases c4 : (S.1 41 25) ≤ x2
    · have hf := zif_t hf c4
      refine z_icmp_ge_t (tgt := 74) dX12_setDoes_19 (by decide) c4 ?_
      exact zW.sub (hex x2 S _ hE hf) [0, 1, 2] rfl rfl rfl rfl
    · have hf := zif_f hf c4
      refine z_icmp_ge_f (tgt := 74) dX12_setDoes_19 (by decide) c4 ?_
      refine z_aload_n dX12_setDoes_22 rfl ?_
      refine z_getC dX12_setDoes_23 tF_12_64 hE dr_41 rfl rfl ?_
      obtain ⟨r6, S5, k7, hf⟩ := zb_some hf
      refine z_callSi dX12_setDoes_26 tM_12_354 (by decide) mt_12053 (Nat.le_of_ble_eq_true rfl) rfl rfl (ia_oks_le hn1 rfl) (Nat.le_of_ble_eq_true rfl) (w_X12_isDone hn1 hn2 (d + 111) rw_55 hE k7) (fun h hE => ?_)
      by_cases c8 : ¬ r6 = 0
      · have hf := zif_t hf c8
        refine z_if_ne_t (tgt := 74) dX12_setDoes_29 (by decide) c8 ?_
        exact zW.sub (hex x2 S5 _ hE hf) [0, 1, 2] rfl rfl rfl rfl
      · have hf := zif_f hf c8
        refine z_if_ne_f (tgt := 74) dX12_setDoes_29 (by decide) c8 ?_
        refine z_iload_n dX12_setDoes_32 rfl ?_
        refine z_iload_n dX12_setDoes_33 rfl ?_
        obtain ⟨r10, S9, k11, hf⟩ := zb_some hf
        refine z_callSi dX12_setDoes_34 tM_12_241 (by decide) mt_12015 (Nat.le_of_ble_eq_true rfl) rfl rfl (ia_oks_le hn1 rfl) (Nat.le_of_ble_eq_true rfl) (w_X12_has hn1 hn2 (d + 111) hE k11) (fun h hE => ?_)
        obtain ⟨J13, eJ13, hf⟩ := zl_some hf
        have hJ13 : ∀ (S14 : zS) (h : Nat → va_E), zE zDr h0 S14 (h, t) → J13 S14 = some R → zW (ia_P0 L xs fm) ia_nx (d + 112) 12 false cX12_setDoes 3 (some .boolean) 68 [(0, .ref 41), (1, .int i1), (2, .int x2)] [] (h, t) (zQi zDr h0 t R) := by
          intro S14 h hE hf
          rw [eJ13] at hf
          obtain ⟨y15, ey15, hf⟩ := zl_some hf
          refine z_iincY (v := 1) (y := y15) (lv' := [(2, .int y15), (0, .ref 41), (1, .int i1)]) dX12_setDoes_68 rfl (by decide) (by decide) ey15 rfl ?_
          refine z_goto (tgt := 14) dX12_setDoes_71 (by decide) ?_
          exact zW.sub (ih y15 S14 _ hE hf) [1, 2, 0] rfl rfl rfl rfl
        by_cases c12 : r10 = 0
        · have hf := zif_t hf c12
          refine z_if_eq_t (tgt := 68) dX12_setDoes_37 (by decide) c12 ?_
          exact zW.sub (hJ13 S9 _ hE hf) [0, 1, 2] rfl rfl rfl rfl
        · have hf := zif_f hf c12
          refine z_if_eq_f (tgt := 68) dX12_setDoes_37 (by decide) c12 ?_
          refine z_aload_n dX12_setDoes_40 rfl ?_
          refine z_aload_n dX12_setDoes_41 rfl ?_
          refine z_getC dX12_setDoes_42 tF_12_64 hE dr_41 rfl rfl ?_
          refine z_iload_n dX12_setDoes_45 rfl ?_
          refine z_iconst (v := (-1)) dX12_setDoes_46 (by decide) ?_
          refine z_aload_n dX12_setDoes_47 rfl ?_
          refine z_getC dX12_setDoes_48 tF_12_37 hE dr_41 rfl rfl ?_
          refine z_bipush (v := 6) dX12_setDoes_51 (by decide) ?_
          refine z_aload_n dX12_setDoes_53 rfl ?_
          refine z_getC dX12_setDoes_54 tF_12_64 hE dr_41 rfl rfl ?_
          refine z_bipush (v := 64) dX12_setDoes_57 (by decide) ?_
          refine z_ialoadL (i := 64) dX12_setDoes_59 hE dr_55 (by decide) (by decide) ?_
          refine z_imul dX12_setDoes_60 ?_
          refine z_iconst (v := 3) dX12_setDoes_61 (by decide) ?_
          refine z_iadd dX12_setDoes_62 ?_
          obtain ⟨b16, hf⟩ := zchk hf
          refine z_ialoadL dX12_setDoes_63 hE dr_46 b16 rfl ?_
          refine z_iconst (v := 0) dX12_setDoes_64 (by decide) ?_
          obtain ⟨r18, S17, k19, hf⟩ := zb_some hf
          refine z_callVv dX12_setDoes_65 tM_12_350 mt_12055 (Nat.le_of_ble_eq_true rfl) rfl rfl (z_recv hE dr_41 rfl) rfl (ia_oks_le hn1 rfl) (Nat.le_of_ble_eq_true rfl) (w_X12_turns hn1 hn2 (d + 0) rw_55 hE k19) (fun h hE => ?_)
          exact zW.sub (hJ13 S17 _ hE hf) [0, 1, 2] rfl rfl rfl rfl
theorem w_X12_setDoes {L : Nat} {xs : Nat → Int32} {fm : Bool} {h0 : Nat → va_E} {t : Nat × Nat × Nat} (hn1 : 64 ≤ t.1) (hn2 : t.1 ≤ 1000000) (d : Nat) {h : Nat → va_E} {S : zS} (hE : zE zDr h0 S (h, t)) {v1 : Int32} {R : Int32 × zS} (hf : f_X12_setDoes v1 S = some R) : zC (ia_P0 L xs fm) (d + 113) 12085 [.ref 41, .int v1] (h, t) (zQi zDr h0 t R) := by
  refine zC_of mt_12085 nn_12085 (Nat.le_of_ble_eq_true rfl) ?_
  refine zW_lv (lv' := [(0, .ref 41), (1, .int v1)]) rfl ?_
  unfold f_X12_setDoes at hf
  refine z_aload_n dX12_setDoes_0 rfl ?_
  refine z_aload_n dX12_setDoes_1 rfl ?_
  refine z_getC dX12_setDoes_2 tF_12_61 hE dr_41 rfl rfl ?_
  refine z_aload_n dX12_setDoes_5 rfl ?_
  refine z_getC dX12_setDoes_6 tF_12_64 hE dr_41 rfl rfl ?_
  obtain ⟨r2, S1, k3, hf⟩ := zb_some hf
  refine z_callVv dX12_setDoes_9 tM_12_404 mt_12079 (Nat.le_of_ble_eq_true rfl) rfl rfl (z_recv hE dr_41 rfl) rfl (ia_oks_le hn1 rfl) (Nat.le_of_ble_eq_true rfl) (w_X12_copy_rw_rw hn1 hn2 (d + 111) rw_54 rw_55 hE k3) (fun h hE => ?_)
  refine z_iconst (v := 0) dX12_setDoes_12 (by decide) ?_
  refine z_istore_n (lv' := [(2, .int 0), (0, .ref 41), (1, .int v1)]) dX12_setDoes_13 (by decide) rfl ?_
  refine zW.sub (w_X12_setDoes_L14 hn1 hn2 d (fun q21 S20 h hE hf => ?_) zN 0 S1 h hE hf) [1, 2, 0] rfl rfl rfl rfl
  try dsimp only at hf
  refine z_aload_n dX12_setDoes_74 rfl ?_
  refine z_getC dX12_setDoes_75 tF_12_64 hE dr_41 rfl rfl ?_
  refine z_bipush (v := 7) dX12_setDoes_78 (by decide) ?_
  refine z_aload_n dX12_setDoes_80 rfl ?_
  refine z_getC dX12_setDoes_81 tF_12_64 hE dr_41 rfl rfl ?_
  refine z_bipush (v := 64) dX12_setDoes_84 (by decide) ?_
  refine z_ialoadL (i := 64) dX12_setDoes_86 hE dr_55 (by decide) (by decide) ?_
  refine z_imul dX12_setDoes_87 ?_
  refine z_iconst (v := 5) dX12_setDoes_88 (by decide) ?_
  refine z_iadd dX12_setDoes_89 ?_
  obtain ⟨b22, hf⟩ := zchk hf
  refine z_ialoadL dX12_setDoes_90 hE dr_55 b22 rfl ?_
  refine z_iconst (v := 1) dX12_setDoes_91 (by decide) ?_
  by_cases c23 : ¬ (S20.1 55 ((7 * (S20.1 55 64)) + 5).toNatClampNeg) = 1
  · have hf := zif_t hf c23
    refine z_icmp_ne_t (tgt := 99) dX12_setDoes_92 (by decide) c23 ?_
    refine z_iconst (v := 0) dX12_setDoes_99 (by decide) ?_
    have e_ := Option.some.inj hf
    subst e_
    exact z_zreturn dX12_setDoes_100 rfl (by decide) ⟨h, rfl, rfl, hE⟩
  · have hf := zif_f hf c23
    refine z_icmp_ne_f (tgt := 99) dX12_setDoes_92 (by decide) c23 ?_
    refine z_iconst (v := 1) dX12_setDoes_95 (by decide) ?_
    refine z_goto (tgt := 100) dX12_setDoes_96 (by decide) ?_
    have e_ := Option.some.inj hf
    subst e_
    exact z_zreturn dX12_setDoes_100 rfl (by decide) ⟨h, rfl, rfl, hE⟩
def f_X12_opens (v1 : Int32) (S : zS) : Option (Int32 × zS) :=
zl (sV S 41 0 0) fun S1 =>
zb (f_X12_canWork S1) fun r3 S2 =>
if r3 = 0 then
some ((-1), S2)
else
if v1 < 0 then
some ((-1), S2)
else
if (1 <<< ((S2.1 41 25) &&& 31)) ≤ v1 then
some ((-1), S2)
else
zb (f_X12_setDoes v1 S2) fun r9 S8 =>
if r9 = 0 then
some (0, S8)
else
some (1, S8)
theorem w_X12_opens {L : Nat} {xs : Nat → Int32} {fm : Bool} {h0 : Nat → va_E} {t : Nat × Nat × Nat} (hn1 : 64 ≤ t.1) (hn2 : t.1 ≤ 1000000) (d : Nat) {h : Nat → va_E} {S : zS} (hE : zE zDr h0 S (h, t)) {v1 : Int32} {R : Int32 × zS} (hf : f_X12_opens v1 S = some R) : zC (ia_P0 L xs fm) (d + 114) 12084 [.ref 41, .int v1] (h, t) (zQi zDr h0 t R) := by
  refine zC_of mt_12084 nn_12084 (Nat.le_of_ble_eq_true rfl) ?_
  refine zW_lv (lv' := [(0, .ref 41), (1, .int v1)]) rfl ?_
  unfold f_X12_opens at hf
  refine z_aload_n dX12_opens_0 rfl ?_
  refine z_iconst (v := 0) dX12_opens_1 (by decide) ?_
  obtain ⟨S1, eS1, hf⟩ := zl_some hf
  refine z_putI dX12_opens_2 tF_12_93 hE dr_41 rfl rfl rfl rfl (fun h hE => ?_)
  rw [← eS1] at hE
  refine z_aload_n dX12_opens_5 rfl ?_
  obtain ⟨r3, S2, k4, hf⟩ := zb_some hf
  refine z_callVi dX12_opens_6 tM_12_364 mt_12058 (Nat.le_of_ble_eq_true rfl) rfl rfl (z_recv hE dr_41 rfl) rfl (ia_oks_le hn1 rfl) (Nat.le_of_ble_eq_true rfl) (w_X12_canWork hn1 hn2 (d + 111) hE k4) (fun h hE => ?_)
  by_cases c5 : r3 = 0
  · have hf := zif_t hf c5
    refine z_if_eq_t (tgt := 42) dX12_opens_9 (by decide) c5 ?_
    refine z_iconst (v := (-1)) dX12_opens_42 (by decide) ?_
    have e_ := Option.some.inj hf
    subst e_
    exact z_ireturn dX12_opens_43 rfl ⟨h, rfl, rfl, hE⟩
  · have hf := zif_f hf c5
    refine z_if_eq_f (tgt := 42) dX12_opens_9 (by decide) c5 ?_
    refine z_iload_n dX12_opens_12 rfl ?_
    by_cases c6 : v1 < 0
    · have hf := zif_t hf c6
      refine z_if_lt_t (tgt := 42) dX12_opens_13 (by decide) c6 ?_
      refine z_iconst (v := (-1)) dX12_opens_42 (by decide) ?_
      have e_ := Option.some.inj hf
      subst e_
      exact z_ireturn dX12_opens_43 rfl ⟨h, rfl, rfl, hE⟩
    · have hf := zif_f hf c6
      refine z_if_lt_f (tgt := 42) dX12_opens_13 (by decide) c6 ?_
      refine z_iload_n dX12_opens_16 rfl ?_
      refine z_iconst (v := 1) dX12_opens_17 (by decide) ?_
      refine z_aload_n dX12_opens_18 rfl ?_
      refine z_getI dX12_opens_19 tF_12_288 hE dr_41 rfl rfl ?_
      refine z_ishl dX12_opens_22 ?_
      by_cases c7 : (1 <<< ((S2.1 41 25) &&& 31)) ≤ v1
      · have hf := zif_t hf c7
        refine z_icmp_ge_t (tgt := 42) dX12_opens_23 (by decide) c7 ?_
        refine z_iconst (v := (-1)) dX12_opens_42 (by decide) ?_
        have e_ := Option.some.inj hf
        subst e_
        exact z_ireturn dX12_opens_43 rfl ⟨h, rfl, rfl, hE⟩
      · have hf := zif_f hf c7
        refine z_icmp_ge_f (tgt := 42) dX12_opens_23 (by decide) c7 ?_
        refine z_aload_n dX12_opens_26 rfl ?_
        refine z_iload_n dX12_opens_27 rfl ?_
        obtain ⟨r9, S8, k10, hf⟩ := zb_some hf
        refine z_callVi dX12_opens_28 tM_12_423 mt_12085 (Nat.le_of_ble_eq_true rfl) rfl rfl (z_recv hE dr_41 rfl) rfl (ia_oks_le hn1 rfl) (Nat.le_of_ble_eq_true rfl) (w_X12_setDoes hn1 hn2 (d + 0) hE k10) (fun h hE => ?_)
        by_cases c11 : r9 = 0
        · have hf := zif_t hf c11
          refine z_if_eq_t (tgt := 38) dX12_opens_31 (by decide) c11 ?_
          refine z_iconst (v := 0) dX12_opens_38 (by decide) ?_
          refine z_goto (tgt := 43) dX12_opens_39 (by decide) ?_
          have e_ := Option.some.inj hf
          subst e_
          exact z_ireturn dX12_opens_43 rfl ⟨h, rfl, rfl, hE⟩
        · have hf := zif_f hf c11
          refine z_if_eq_f (tgt := 38) dX12_opens_31 (by decide) c11 ?_
          refine z_iconst (v := 1) dX12_opens_34 (by decide) ?_
          refine z_goto (tgt := 43) dX12_opens_35 (by decide) ?_
          have e_ := Option.some.inj hf
          subst e_
          exact z_ireturn dX12_opens_43 rfl ⟨h, rfl, rfl, hE⟩
def f_X12_orders_L4 (ex : Int32 → Int32 → zS → Option (Int32 × zS)) (i0 : Int32) : Nat → Int32 → Int32 → zS → Option (Int32 × zS)
  | 0, _, _, _ => none
  | k + 1, x1, x2, S =>
    if i0 < x2 then
    ex x1 x2 S
    else
    zl (x1 * x2) fun (y2 : Int32) =>
    zl (x2 + 1) fun (y3 : Int32) =>
    f_X12_orders_L4 ex i0 k y2 y3 S
def f_X12_orders (v0 : Int32) (S : zS) : Option (Int32 × zS) :=
f_X12_orders_L4 (fun (q5 : Int32) (q6 : Int32) (S4 : zS) =>
some (q5, S4)) v0 zN 1 2 S
theorem w_X12_orders_L4 {L : Nat} {xs : Nat → Int32} {fm : Bool} {h0 : Nat → va_E} {t : Nat × Nat × Nat} (hn1 : 64 ≤ t.1) (hn2 : t.1 ≤ 1000000) (d : Nat) {ex : Int32 → Int32 → zS → Option (Int32 × zS)} {i0 : Int32} {R : Int32 × zS} (hex : ∀ (x1 : Int32) (x2 : Int32) (S : zS) (h : Nat → va_E), zE zDr h0 S (h, t) → ex x1 x2 S = some R → zW (ia_P0 L xs fm) ia_nx (d + 0) 12 false cX12_orders 3 (some .int) 19 [(0, .int i0), (1, .int x1), (2, .int x2)] [] (h, t) (zQi zDr h0 t R)) : ∀ (k : Nat) (x1 : Int32) (x2 : Int32) (S : zS) (h : Nat → va_E), zE zDr h0 S (h, t) → f_X12_orders_L4 ex i0 k x1 x2 S = some R → zW (ia_P0 L xs fm) ia_nx (d + 0) 12 false cX12_orders 3 (some .int) 4 [(0, .int i0), (1, .int x1), (2, .int x2)] [] (h, t) (zQi zDr h0 t R) := by
  intro k
  induction k with
  | zero => intro x1 x2 S h hE hf; cases hf
  | succ k ih =>
    intro x1 x2 S h hE hf
    unfold f_X12_orders_L4 at hf
    refine z_iload_n dX12_orders_4 rfl ?_
    refine z_iload_n dX12_orders_5 rfl ?_
    by_cases c1 : i0 < x2
    · have hf := zif_t hf c1
      refine z_icmp_gt_t (tgt := 19) dX12_orders_6 (by decide) c1 ?_
      exact zW.sub (hex x1 x2 S _ hE hf) [0, 1, 2] rfl rfl rfl rfl
    · have hf := zif_f hf c1
      refine z_icmp_gt_f (tgt := 19) dX12_orders_6 (by decide) c1 ?_
      refine z_iload_n dX12_orders_9 rfl ?_
      refine z_iload_n dX12_orders_10 rfl ?_
      refine z_imul dX12_orders_11 ?_
      obtain ⟨y2, ey2, hf⟩ := zl_some hf
      refine z_topi ey2 ?_
      refine z_istore_n (lv' := [(1, .int y2), (0, .int i0), (2, .int x2)]) dX12_orders_12 (by decide) rfl ?_
      obtain ⟨y3, ey3, hf⟩ := zl_some hf
      refine z_iincY (v := 1) (y := y3) (lv' := [(2, .int y3), (1, .int y2), (0, .int i0)]) dX12_orders_13 rfl (by decide) (by decide) ey3 rfl ?_
      refine z_goto (tgt := 4) dX12_orders_16 (by decide) ?_
      exact zW.sub (ih y2 y3 S _ hE hf) [2, 1, 0] rfl rfl rfl rfl
theorem w_X12_orders {L : Nat} {xs : Nat → Int32} {fm : Bool} {h0 : Nat → va_E} {t : Nat × Nat × Nat} (hn1 : 64 ≤ t.1) (hn2 : t.1 ≤ 1000000) (d : Nat) {h : Nat → va_E} {S : zS} (hE : zE zDr h0 S (h, t)) {v0 : Int32} {R : Int32 × zS} (hf : f_X12_orders v0 S = some R) : zC (ia_P0 L xs fm) (d + 1) 12087 [.int v0] (h, t) (zQi zDr h0 t R) := by
  refine zC_of mt_12087 nn_12087 (Nat.le_of_ble_eq_true rfl) ?_
  refine zW_lv (lv' := [(0, .int v0)]) rfl ?_
  unfold f_X12_orders at hf
  refine z_iconst (v := 1) dX12_orders_0 (by decide) ?_
  refine z_istore_n (lv' := [(1, .int 1), (0, .int v0)]) dX12_orders_1 (by decide) rfl ?_
  refine z_iconst (v := 2) dX12_orders_2 (by decide) ?_
  refine z_istore_n (lv' := [(2, .int 2), (1, .int 1), (0, .int v0)]) dX12_orders_3 (by decide) rfl ?_
  refine zW.sub (w_X12_orders_L4 hn1 hn2 d (fun q5 q6 S4 h hE hf => ?_) zN 1 2 S h hE hf) [2, 1, 0] rfl rfl rfl rfl
  try dsimp only at hf
  refine z_iload_n dX12_orders_19 rfl ?_
  have e_ := Option.some.inj hf
  subst e_
  exact z_ireturn dX12_orders_20 rfl ⟨h, rfl, rfl, hE⟩
def f_X12_share_L26 (ex : Int32 → Int32 → zS → Option (Int32 × zS)) (i1 : Int32) : Nat → Int32 → Int32 → zS → Option (Int32 × zS)
  | 0, _, _, _ => none
  | k + 1, x2, x3, S =>
    if (1 <<< ((S.1 41 25) &&& 31)) ≤ x3 then
    ex x2 x3 S
    else
    zb (f_X12_has x3 i1 S) fun r12 S11 =>
    zl (fun (q17 : Int32) (S16 : zS) =>
    zl (x3 + 1) fun (y18 : Int32) =>
    f_X12_share_L26 ex i1 k q17 y18 S16) fun J15 =>
    if ¬ r12 = 0 then
    J15 x2 S11
    else
    zb (f_X12_setDoes x3 S11) fun r20 S19 =>
    if ¬ r20 = 0 then
    J15 x2 S19
    else
    zb (f_X12_setDoes (x3 ||| (1 <<< (i1 &&& 31))) S19) fun r24 S23 =>
    if ¬ r24 = 0 then
    zb (f_J6_bitCount_0f7a4 x3 S23) fun r28 S27 =>
    zb (f_X12_orders r28 S27) fun r31 S30 =>
    zb (f_X12_orders (((S30.1 41 25) - 1) - r28) S30) fun r34 S33 =>
    zl (x2 + (r31 * r34)) fun (y36 : Int32) =>
    J15 y36 S33
    else
    J15 x2 S23
def f_X12_share (v1 : Int32) (S : zS) : Option (Int32 × zS) :=
zl (sV S 41 0 0) fun S1 =>
zb (f_X12_isHand v1 S1) fun r3 S2 =>
if r3 = 0 then
some ((-1), S2)
else
zb (f_X12_canWork S2) fun r7 S6 =>
if ¬ r7 = 0 then
f_X12_share_L26 (fun (q38 : Int32) (q39 : Int32) (S37 : zS) =>
some (q38, S37)) v1 zN 0 0 S6
else
some ((-1), S6)
theorem w_X12_share_L26 {L : Nat} {xs : Nat → Int32} {fm : Bool} {h0 : Nat → va_E} {t : Nat × Nat × Nat} (hn1 : 64 ≤ t.1) (hn2 : t.1 ≤ 1000000) (d : Nat) {ex : Int32 → Int32 → zS → Option (Int32 × zS)} {i1 : Int32} {R : Int32 × zS} (hex : ∀ (x2 : Int32) (x3 : Int32) (S : zS) (h : Nat → va_E), zE zDr h0 S (h, t) → ex x2 x3 S = some R → zW (ia_P0 L xs fm) ia_nx (d + 113) 12 false cX12_share 5 (some .int) 100 [(0, .ref 41), (1, .int i1), (2, .int x2), (3, .int x3)] [] (h, t) (zQi zDr h0 t R)) : ∀ (k : Nat) (x2 : Int32) (x3 : Int32) (S : zS) (h : Nat → va_E), zE zDr h0 S (h, t) → f_X12_share_L26 ex i1 k x2 x3 S = some R → zW (ia_P0 L xs fm) ia_nx (d + 113) 12 false cX12_share 5 (some .int) 26 [(0, .ref 41), (1, .int i1), (2, .int x2), (3, .int x3)] [] (h, t) (zQi zDr h0 t R) := by
  intro k
  induction k with
  | zero => intro x2 x3 S h hE hf; cases hf
  | succ k ih =>
    intro x2 x3 S h hE hf
    unfold f_X12_share_L26 at hf
    refine z_iload_n dX12_share_26 rfl ?_
    refine z_iconst (v := 1) dX12_share_27 (by decide) ?_
    refine z_aload_n dX12_share_28 rfl ?_
    refine z_getI dX12_share_29 tF_12_288 hE dr_41 rfl rfl ?_
    refine z_ishl dX12_share_32 ?_
    by_cases c10 : (1 <<< ((S.1 41 25) &&& 31)) ≤ x3
    · have hf := zif_t hf c10
      refine z_icmp_ge_t (tgt := 100) dX12_share_33 (by decide) c10 ?_
      exact zW.sub (hex x2 x3 S _ hE hf) [0, 1, 2, 3] rfl rfl rfl rfl
    · have hf := zif_f hf c10
      refine z_icmp_ge_f (tgt := 100) dX12_share_33 (by decide) c10 ?_
      refine z_iload_n dX12_share_36 rfl ?_
      refine z_iload_n dX12_share_37 rfl ?_
      obtain ⟨r12, S11, k13, hf⟩ := zb_some hf
      refine z_callSi dX12_share_38 tM_12_241 (by decide) mt_12015 (Nat.le_of_ble_eq_true rfl) rfl rfl (ia_oks_le hn1 rfl) (Nat.le_of_ble_eq_true rfl) (w_X12_has hn1 hn2 (d + 112) hE k13) (fun h hE => ?_)
      obtain ⟨J15, eJ15, hf⟩ := zl_some hf
      have hJ15 : ∀ (q17 : Int32) (S16 : zS) (h : Nat → va_E), zE zDr h0 S16 (h, t) → J15 q17 S16 = some R → zW (ia_P0 L xs fm) ia_nx (d + 113) 12 false cX12_share 5 (some .int) 94 [(0, .ref 41), (1, .int i1), (2, .int q17), (3, .int x3)] [] (h, t) (zQi zDr h0 t R) := by
        intro q17 S16 h hE hf
        rw [eJ15] at hf
        obtain ⟨y18, ey18, hf⟩ := zl_some hf
        refine z_iincY (v := 1) (y := y18) (lv' := [(3, .int y18), (0, .ref 41), (1, .int i1), (2, .int q17)]) dX12_share_94 rfl (by decide) (by decide) ey18 rfl ?_
        refine z_goto (tgt := 26) dX12_share_97 (by decide) ?_
        exact zW.sub (ih q17 y18 S16 _ hE hf) [1, 2, 3, 0] rfl rfl rfl rfl
      by_cases c14 : ¬ r12 = 0
      · have hf := zif_t hf c14
        refine z_if_ne_t (tgt := 94) dX12_share_41 (by decide) c14 ?_
        exact zW.sub (hJ15 x2 S11 _ hE hf) [0, 1, 2, 3] rfl rfl rfl rfl
      · have hf := zif_f hf c14
        refine z_if_ne_f (tgt := 94) dX12_share_41 (by decide) c14 ?_
        refine z_aload_n dX12_share_44 rfl ?_
        refine z_iload_n dX12_share_45 rfl ?_
        obtain ⟨r20, S19, k21, hf⟩ := zb_some hf
        refine z_callVi dX12_share_46 tM_12_423 mt_12085 (Nat.le_of_ble_eq_true rfl) rfl rfl (z_recv hE dr_41 rfl) rfl (ia_oks_le hn1 rfl) (Nat.le_of_ble_eq_true rfl) (w_X12_setDoes hn1 hn2 (d + 0) hE k21) (fun h hE => ?_)
        by_cases c22 : ¬ r20 = 0
        · have hf := zif_t hf c22
          refine z_if_ne_t (tgt := 94) dX12_share_49 (by decide) c22 ?_
          exact zW.sub (hJ15 x2 S19 _ hE hf) [0, 1, 2, 3] rfl rfl rfl rfl
        · have hf := zif_f hf c22
          refine z_if_ne_f (tgt := 94) dX12_share_49 (by decide) c22 ?_
          refine z_aload_n dX12_share_52 rfl ?_
          refine z_iload_n dX12_share_53 rfl ?_
          refine z_iconst (v := 1) dX12_share_54 (by decide) ?_
          refine z_iload_n dX12_share_55 rfl ?_
          refine z_ishl dX12_share_56 ?_
          refine z_ior dX12_share_57 ?_
          obtain ⟨r24, S23, k25, hf⟩ := zb_some hf
          refine z_callVi dX12_share_58 tM_12_423 mt_12085 (Nat.le_of_ble_eq_true rfl) rfl rfl (z_recv hE dr_41 rfl) rfl (ia_oks_le hn1 rfl) (Nat.le_of_ble_eq_true rfl) (w_X12_setDoes hn1 hn2 (d + 0) hE k25) (fun h hE => ?_)
          by_cases c26 : ¬ r24 = 0
          · have hf := zif_t hf c26
            refine z_if_ne_t (tgt := 67) dX12_share_61 (by decide) c26 ?_
            refine z_iload_n dX12_share_67 rfl ?_
            obtain ⟨r28, S27, k29, hf⟩ := zb_some hf
            refine z_callSi dX12_share_68 tM_12_426 (by decide) mt_903000 (Nat.le_of_ble_eq_true rfl) rfl rfl (ia_oks_le hn1 rfl) (Nat.le_of_ble_eq_true rfl) (w_J6_bitCount_0f7a4 hn1 hn2 (d + 112) hE k29) (fun h hE => ?_)
            refine z_istore (lv' := [(4, .int r28), (0, .ref 41), (1, .int i1), (2, .int x2), (3, .int x3)]) dX12_share_71 (by decide) rfl ?_
            refine z_iload_n dX12_share_73 rfl ?_
            refine z_iload dX12_share_74 rfl ?_
            obtain ⟨r31, S30, k32, hf⟩ := zb_some hf
            refine z_callSi dX12_share_76 tM_12_431 (by decide) mt_12087 (Nat.le_of_ble_eq_true rfl) rfl rfl (ia_oks_le hn1 rfl) (Nat.le_of_ble_eq_true rfl) (w_X12_orders hn1 hn2 (d + 112) hE k32) (fun h hE => ?_)
            refine z_aload_n dX12_share_79 rfl ?_
            refine z_getI dX12_share_80 tF_12_288 hE dr_41 rfl rfl ?_
            refine z_iconst (v := 1) dX12_share_83 (by decide) ?_
            refine z_isub dX12_share_84 ?_
            refine z_iload dX12_share_85 rfl ?_
            refine z_isub dX12_share_87 ?_
            obtain ⟨r34, S33, k35, hf⟩ := zb_some hf
            refine z_callSi dX12_share_88 tM_12_431 (by decide) mt_12087 (Nat.le_of_ble_eq_true rfl) rfl rfl (ia_oks_le hn1 rfl) (Nat.le_of_ble_eq_true rfl) (w_X12_orders hn1 hn2 (d + 112) hE k35) (fun h hE => ?_)
            refine z_imul dX12_share_91 ?_
            refine z_iadd dX12_share_92 ?_
            obtain ⟨y36, ey36, hf⟩ := zl_some hf
            refine z_topi ey36 ?_
            refine z_istore_n (lv' := [(2, .int y36), (4, .int r28), (0, .ref 41), (1, .int i1), (3, .int x3)]) dX12_share_93 (by decide) rfl ?_
            exact zW.sub (hJ15 y36 S33 _ hE hf) [2, 3, 0, 4] rfl rfl rfl rfl
          · have hf := zif_f hf c26
            refine z_if_ne_f (tgt := 67) dX12_share_61 (by decide) c26 ?_
            refine z_goto (tgt := 94) dX12_share_64 (by decide) ?_
            exact zW.sub (hJ15 x2 S23 _ hE hf) [0, 1, 2, 3] rfl rfl rfl rfl
theorem w_X12_share {L : Nat} {xs : Nat → Int32} {fm : Bool} {h0 : Nat → va_E} {t : Nat × Nat × Nat} (hn1 : 64 ≤ t.1) (hn2 : t.1 ≤ 1000000) (d : Nat) {h : Nat → va_E} {S : zS} (hE : zE zDr h0 S (h, t)) {v1 : Int32} {R : Int32 × zS} (hf : f_X12_share v1 S = some R) : zC (ia_P0 L xs fm) (d + 114) 12086 [.ref 41, .int v1] (h, t) (zQi zDr h0 t R) := by
  refine zC_of mt_12086 nn_12086 (Nat.le_of_ble_eq_true rfl) ?_
  refine zW_lv (lv' := [(0, .ref 41), (1, .int v1)]) rfl ?_
  unfold f_X12_share at hf
  refine z_aload_n dX12_share_0 rfl ?_
  refine z_iconst (v := 0) dX12_share_1 (by decide) ?_
  obtain ⟨S1, eS1, hf⟩ := zl_some hf
  refine z_putI dX12_share_2 tF_12_93 hE dr_41 rfl rfl rfl rfl (fun h hE => ?_)
  rw [← eS1] at hE
  refine z_aload_n dX12_share_5 rfl ?_
  refine z_iload_n dX12_share_6 rfl ?_
  obtain ⟨r3, S2, k4, hf⟩ := zb_some hf
  refine z_callVi dX12_share_7 tM_12_325 mt_12043 (Nat.le_of_ble_eq_true rfl) rfl rfl (z_recv hE dr_41 rfl) rfl (ia_oks_le hn1 rfl) (Nat.le_of_ble_eq_true rfl) (w_X12_isHand hn1 hn2 (d + 112) hE k4) (fun h hE => ?_)
  by_cases c5 : r3 = 0
  · have hf := zif_t hf c5
    refine z_if_eq_t (tgt := 20) dX12_share_10 (by decide) c5 ?_
    refine z_iconst (v := (-1)) dX12_share_20 (by decide) ?_
    have e_ := Option.some.inj hf
    subst e_
    exact z_ireturn dX12_share_21 rfl ⟨h, rfl, rfl, hE⟩
  · have hf := zif_f hf c5
    refine z_if_eq_f (tgt := 20) dX12_share_10 (by decide) c5 ?_
    refine z_aload_n dX12_share_13 rfl ?_
    obtain ⟨r7, S6, k8, hf⟩ := zb_some hf
    refine z_callVi dX12_share_14 tM_12_364 mt_12058 (Nat.le_of_ble_eq_true rfl) rfl rfl (z_recv hE dr_41 rfl) rfl (ia_oks_le hn1 rfl) (Nat.le_of_ble_eq_true rfl) (w_X12_canWork hn1 hn2 (d + 111) hE k8) (fun h hE => ?_)
    by_cases c9 : ¬ r7 = 0
    · have hf := zif_t hf c9
      refine z_if_ne_t (tgt := 22) dX12_share_17 (by decide) c9 ?_
      refine z_iconst (v := 0) dX12_share_22 (by decide) ?_
      refine z_istore_n (lv' := [(2, .int 0), (0, .ref 41), (1, .int v1)]) dX12_share_23 (by decide) rfl ?_
      refine z_iconst (v := 0) dX12_share_24 (by decide) ?_
      refine z_istore_n (lv' := [(3, .int 0), (2, .int 0), (0, .ref 41), (1, .int v1)]) dX12_share_25 (by decide) rfl ?_
      refine zW.sub (w_X12_share_L26 hn1 hn2 d (fun q38 q39 S37 h hE hf => ?_) zN 0 0 S6 h hE hf) [2, 3, 1, 0] rfl rfl rfl rfl
      try dsimp only at hf
      refine z_iload_n dX12_share_100 rfl ?_
      have e_ := Option.some.inj hf
      subst e_
      exact z_ireturn dX12_share_101 rfl ⟨h, rfl, rfl, hE⟩
    · have hf := zif_f hf c9
      refine z_if_ne_f (tgt := 22) dX12_share_17 (by decide) c9 ?_
      refine z_iconst (v := (-1)) dX12_share_20 (by decide) ?_
      have e_ := Option.some.inj hf
      subst e_
      exact z_ireturn dX12_share_21 rfl ⟨h, rfl, rfl, hE⟩
def f_X12_wouldOpen (w : Nat) (v2 : Int32) (v3 : Int32) (S : zS) : Option (Int32 × zS) :=
zb (f_X12_gripOf w v2 v3 (S.1 w 64) S) fun r2 S1 =>
zb (f_X12_holdOf w (S1.1 w 64) S1) fun r5 S4 =>
if r2 < r5 then
some (0, S4)
else
some (1, S4)
theorem w_X12_wouldOpen {L : Nat} {xs : Nat → Int32} {fm : Bool} {h0 : Nat → va_E} {t : Nat × Nat × Nat} (hn1 : 64 ≤ t.1) (hn2 : t.1 ≤ 1000000) (d : Nat) {w : Nat} (ho_w : zRw w) {h : Nat → va_E} {S : zS} (hE : zE zDr h0 S (h, t)) {v2 : Int32} {v3 : Int32} {R : Int32 × zS} (hf : f_X12_wouldOpen w v2 v3 S = some R) : zC (ia_P0 L xs fm) (d + 112) 12089 [.ref 41, .ref w, .int v2, .int v3] (h, t) (zQi zDr h0 t R) := by
  refine zC_of mt_12089 nn_12089 (Nat.le_of_ble_eq_true rfl) ?_
  refine zW_lv (lv' := [(0, .ref 41), (1, .ref w), (2, .int v2), (3, .int v3)]) rfl ?_
  unfold f_X12_wouldOpen at hf
  refine z_aload_n dX12_wouldOpen_0 rfl ?_
  refine z_aload_n dX12_wouldOpen_1 rfl ?_
  refine z_iload_n dX12_wouldOpen_2 rfl ?_
  refine z_iload_n dX12_wouldOpen_3 rfl ?_
  refine z_aload_n dX12_wouldOpen_4 rfl ?_
  refine z_bipush (v := 64) dX12_wouldOpen_5 (by decide) ?_
  refine z_ialoadL (i := 64) dX12_wouldOpen_7 hE ho_w.1 (by decide) (by decide) ?_
  obtain ⟨r2, S1, k3, hf⟩ := zb_some hf
  refine z_callVi dX12_wouldOpen_8 tM_12_333 mt_12049 (Nat.le_of_ble_eq_true rfl) rfl rfl (z_recv hE dr_41 rfl) rfl (by have q0 : 41 < t.1 := Nat.lt_of_lt_of_le (by decide) hn1; have q1 : w < t.1 := Nat.lt_of_lt_of_le ho_w.2 (Nat.le_trans (by decide) hn1); simp [ia_oks, ia_okv, q0, q1]) (Nat.le_of_ble_eq_true rfl) (w_X12_gripOf hn1 hn2 (d + 0) ho_w hE k3) (fun h hE => ?_)
  refine z_aload_n dX12_wouldOpen_11 rfl ?_
  refine z_aload_n dX12_wouldOpen_12 rfl ?_
  refine z_bipush (v := 64) dX12_wouldOpen_13 (by decide) ?_
  refine z_ialoadL (i := 64) dX12_wouldOpen_15 hE ho_w.1 (by decide) (by decide) ?_
  obtain ⟨r5, S4, k6, hf⟩ := zb_some hf
  refine z_callSi dX12_wouldOpen_16 tM_12_321 (by decide) mt_12041 (Nat.le_of_ble_eq_true rfl) rfl rfl (by have q0 : 41 < t.1 := Nat.lt_of_lt_of_le (by decide) hn1; have q1 : w < t.1 := Nat.lt_of_lt_of_le ho_w.2 (Nat.le_trans (by decide) hn1); simp [ia_oks, ia_okv, q0, q1]) (Nat.le_of_ble_eq_true rfl) (w_X12_holdOf hn1 hn2 (d + 110) ho_w hE k6) (fun h hE => ?_)
  by_cases c7 : r2 < r5
  · have hf := zif_t hf c7
    refine z_icmp_lt_t (tgt := 26) dX12_wouldOpen_19 (by decide) c7 ?_
    refine z_iconst (v := 0) dX12_wouldOpen_26 (by decide) ?_
    have e_ := Option.some.inj hf
    subst e_
    exact z_zreturn dX12_wouldOpen_27 rfl (by decide) ⟨h, rfl, rfl, hE⟩
  · have hf := zif_f hf c7
    refine z_icmp_lt_f (tgt := 26) dX12_wouldOpen_19 (by decide) c7 ?_
    refine z_iconst (v := 1) dX12_wouldOpen_22 (by decide) ?_
    refine z_goto (tgt := 27) dX12_wouldOpen_23 (by decide) ?_
    have e_ := Option.some.inj hf
    subst e_
    exact z_zreturn dX12_wouldOpen_27 rfl (by decide) ⟨h, rfl, rfl, hE⟩
def f_X12_cheapest_L45 (ex : Int32 → Int32 → zS → Option (Int32 × zS)) (i1 : Int32) : Nat → Int32 → Int32 → zS → Option (Int32 × zS)
  | 0, _, _, _ => none
  | k + 1, x2, x3, S =>
    if (S.1 41 26) ≤ x3 then
    ex x2 x3 S
    else
    zb (f_X12_wouldOpen 54 i1 x3 S) fun r16 S15 =>
    zl (fun (q20 : Int32) =>
    zl (x3 + 1) fun (y21 : Int32) =>
    f_X12_cheapest_L45 ex i1 k q20 y21 S15) fun J19 =>
    if r16 = 0 then
    J19 x2
    else
    zl (fun (u24 : Unit) =>
    J19 x3) fun J23 =>
    if x2 = (-1000000) then
    J23 ()
    else
    if ia_in ((2 * x3) + 1) 8 = true then
    if ia_in ((2 * x2) + 1) 8 = true then
    if (S15.1 50 ((2 * x2) + 1).toNatClampNeg) ≤ (S15.1 50 ((2 * x3) + 1).toNatClampNeg) then
    J19 x2
    else
    J23 ()
    else none
    else none
def f_X12_cheapest (v1 : Int32) (S : zS) : Option (Int32 × zS) :=
zl (sV S 41 0 0) fun S1 =>
zb (f_X12_isHand v1 S1) fun r3 S2 =>
if r3 = 0 then
some ((-1000000), S2)
else
zb (f_X12_canWork S2) fun r7 S6 =>
if ¬ r7 = 0 then
zb (f_X12_wouldOpen 54 v1 (-1) S6) fun r11 S10 =>
if r11 = 0 then
f_X12_cheapest_L45 (fun (q29 : Int32) (q30 : Int32) (S28 : zS) =>
some (q29, S28)) v1 zN (-1000000) 0 S10
else
some ((-1), S10)
else
some ((-1000000), S6)
theorem w_X12_cheapest_L45 {L : Nat} {xs : Nat → Int32} {fm : Bool} {h0 : Nat → va_E} {t : Nat × Nat × Nat} (hn1 : 64 ≤ t.1) (hn2 : t.1 ≤ 1000000) (d : Nat) {ex : Int32 → Int32 → zS → Option (Int32 × zS)} {i1 : Int32} {R : Int32 × zS} (hex : ∀ (x2 : Int32) (x3 : Int32) (S : zS) (h : Nat → va_E), zE zDr h0 S (h, t) → ex x2 x3 S = some R → zW (ia_P0 L xs fm) ia_nx (d + 112) 12 false cX12_cheapest 4 (some .int) 104 [(0, .ref 41), (1, .int i1), (2, .int x2), (3, .int x3)] [] (h, t) (zQi zDr h0 t R)) : ∀ (k : Nat) (x2 : Int32) (x3 : Int32) (S : zS) (h : Nat → va_E), zE zDr h0 S (h, t) → f_X12_cheapest_L45 ex i1 k x2 x3 S = some R → zW (ia_P0 L xs fm) ia_nx (d + 112) 12 false cX12_cheapest 4 (some .int) 45 [(0, .ref 41), (1, .int i1), (2, .int x2), (3, .int x3)] [] (h, t) (zQi zDr h0 t R) := by
  intro k
  induction k with
  | zero => intro x2 x3 S h hE hf; cases hf
  | succ k ih =>
    intro x2 x3 S h hE hf
    unfold f_X12_cheapest_L45 at hf
    refine z_iload_n dX12_cheapest_45 rfl ?_
    refine z_aload_n dX12_cheapest_46 rfl ?_
    refine z_getI dX12_cheapest_47 tF_12_291 hE dr_41 rfl rfl ?_
    by_cases c14 : (S.1 41 26) ≤ x3
    · have hf := zif_t hf c14
      refine z_icmp_ge_t (tgt := 104) dX12_cheapest_50 (by decide) c14 ?_
      exact zW.sub (hex x2 x3 S _ hE hf) [0, 1, 2, 3] rfl rfl rfl rfl
    · have hf := zif_f hf c14
      refine z_icmp_ge_f (tgt := 104) dX12_cheapest_50 (by decide) c14 ?_
      refine z_aload_n dX12_cheapest_53 rfl ?_
      refine z_aload_n dX12_cheapest_54 rfl ?_
      refine z_getC dX12_cheapest_55 tF_12_61 hE dr_41 rfl rfl ?_
      refine z_iload_n dX12_cheapest_58 rfl ?_
      refine z_iload_n dX12_cheapest_59 rfl ?_
      obtain ⟨r16, S15, k17, hf⟩ := zb_some hf
      refine z_callVi dX12_cheapest_60 tM_12_434 mt_12089 (Nat.le_of_ble_eq_true rfl) rfl rfl (z_recv hE dr_41 rfl) rfl (ia_oks_le hn1 rfl) (Nat.le_of_ble_eq_true rfl) (w_X12_wouldOpen hn1 hn2 (d + 0) rw_54 hE k17) (fun h hE => ?_)
      obtain ⟨J19, eJ19, hf⟩ := zl_some hf
      have hJ19 : ∀ (q20 : Int32) (h : Nat → va_E), zE zDr h0 S15 (h, t) → J19 q20 = some R → zW (ia_P0 L xs fm) ia_nx (d + 112) 12 false cX12_cheapest 4 (some .int) 98 [(0, .ref 41), (1, .int i1), (2, .int q20), (3, .int x3)] [] (h, t) (zQi zDr h0 t R) := by
        intro q20 h hE hf
        rw [eJ19] at hf
        obtain ⟨y21, ey21, hf⟩ := zl_some hf
        refine z_iincY (v := 1) (y := y21) (lv' := [(3, .int y21), (0, .ref 41), (1, .int i1), (2, .int q20)]) dX12_cheapest_98 rfl (by decide) (by decide) ey21 rfl ?_
        refine z_goto (tgt := 45) dX12_cheapest_101 (by decide) ?_
        exact zW.sub (ih q20 y21 S15 _ hE hf) [1, 2, 3, 0] rfl rfl rfl rfl
      by_cases c18 : r16 = 0
      · have hf := zif_t hf c18
        refine z_if_eq_t (tgt := 98) dX12_cheapest_63 (by decide) c18 ?_
        exact zW.sub (hJ19 x2 _ hE hf) [0, 1, 2, 3] rfl rfl rfl rfl
      · have hf := zif_f hf c18
        refine z_if_eq_f (tgt := 98) dX12_cheapest_63 (by decide) c18 ?_
        refine z_iload_n dX12_cheapest_66 rfl ?_
        refine z_ldcw dX12_cheapest_67 tK_12_389 ?_
        obtain ⟨J23, eJ23, hf⟩ := zl_some hf
        have hJ23 : ∀ (u24 : Unit) (h : Nat → va_E), zE zDr h0 S15 (h, t) → J23 u24 = some R → zW (ia_P0 L xs fm) ia_nx (d + 112) 12 false cX12_cheapest 4 (some .int) 96 [(0, .ref 41), (1, .int i1), (2, .int x2), (3, .int x3)] [] (h, t) (zQi zDr h0 t R) := by
          intro u24 h hE hf
          rw [eJ23] at hf
          refine z_iload_n dX12_cheapest_96 rfl ?_
          refine z_istore_n (lv' := [(2, .int x3), (0, .ref 41), (1, .int i1), (3, .int x3)]) dX12_cheapest_97 (by decide) rfl ?_
          exact zW.sub (hJ19 x3 _ hE hf) [1, 2, 0, 3] rfl rfl rfl rfl
        by_cases c22 : x2 = (-1000000)
        · have hf := zif_t hf c22
          refine z_icmp_eq_t (tgt := 96) dX12_cheapest_70 (by decide) c22 ?_
          exact zW.sub (hJ23 () _ hE hf) [0, 1, 2, 3] rfl rfl rfl rfl
        · have hf := zif_f hf c22
          refine z_icmp_eq_f (tgt := 96) dX12_cheapest_70 (by decide) c22 ?_
          refine z_aload_n dX12_cheapest_73 rfl ?_
          refine z_getC dX12_cheapest_74 tF_12_49 hE dr_41 rfl rfl ?_
          refine z_iconst (v := 2) dX12_cheapest_77 (by decide) ?_
          refine z_iload_n dX12_cheapest_78 rfl ?_
          refine z_imul dX12_cheapest_79 ?_
          refine z_iconst (v := 1) dX12_cheapest_80 (by decide) ?_
          refine z_iadd dX12_cheapest_81 ?_
          obtain ⟨b25, hf⟩ := zchk hf
          refine z_ialoadL dX12_cheapest_82 hE dr_50 b25 rfl ?_
          refine z_aload_n dX12_cheapest_83 rfl ?_
          refine z_getC dX12_cheapest_84 tF_12_49 hE dr_41 rfl rfl ?_
          refine z_iconst (v := 2) dX12_cheapest_87 (by decide) ?_
          refine z_iload_n dX12_cheapest_88 rfl ?_
          refine z_imul dX12_cheapest_89 ?_
          refine z_iconst (v := 1) dX12_cheapest_90 (by decide) ?_
          refine z_iadd dX12_cheapest_91 ?_
          obtain ⟨b26, hf⟩ := zchk hf
          refine z_ialoadL dX12_cheapest_92 hE dr_50 b26 rfl ?_
          by_cases c27 : (S15.1 50 ((2 * x2) + 1).toNatClampNeg) ≤ (S15.1 50 ((2 * x3) + 1).toNatClampNeg)
          · have hf := zif_t hf c27
            refine z_icmp_ge_t (tgt := 98) dX12_cheapest_93 (by decide) c27 ?_
            exact zW.sub (hJ19 x2 _ hE hf) [0, 1, 2, 3] rfl rfl rfl rfl
          · have hf := zif_f hf c27
            refine z_icmp_ge_f (tgt := 98) dX12_cheapest_93 (by decide) c27 ?_
            exact zW.sub (hJ23 () _ hE hf) [0, 1, 2, 3] rfl rfl rfl rfl
theorem w_X12_cheapest {L : Nat} {xs : Nat → Int32} {fm : Bool} {h0 : Nat → va_E} {t : Nat × Nat × Nat} (hn1 : 64 ≤ t.1) (hn2 : t.1 ≤ 1000000) (d : Nat) {h : Nat → va_E} {S : zS} (hE : zE zDr h0 S (h, t)) {v1 : Int32} {R : Int32 × zS} (hf : f_X12_cheapest v1 S = some R) : zC (ia_P0 L xs fm) (d + 113) 12088 [.ref 41, .int v1] (h, t) (zQi zDr h0 t R) := by
  refine zC_of mt_12088 nn_12088 (Nat.le_of_ble_eq_true rfl) ?_
  refine zW_lv (lv' := [(0, .ref 41), (1, .int v1)]) rfl ?_
  unfold f_X12_cheapest at hf
  refine z_aload_n dX12_cheapest_0 rfl ?_
  refine z_iconst (v := 0) dX12_cheapest_1 (by decide) ?_
  obtain ⟨S1, eS1, hf⟩ := zl_some hf
  refine z_putI dX12_cheapest_2 tF_12_93 hE dr_41 rfl rfl rfl rfl (fun h hE => ?_)
  rw [← eS1] at hE
  refine z_aload_n dX12_cheapest_5 rfl ?_
  refine z_iload_n dX12_cheapest_6 rfl ?_
  obtain ⟨r3, S2, k4, hf⟩ := zb_some hf
  refine z_callVi dX12_cheapest_7 tM_12_325 mt_12043 (Nat.le_of_ble_eq_true rfl) rfl rfl (z_recv hE dr_41 rfl) rfl (ia_oks_le hn1 rfl) (Nat.le_of_ble_eq_true rfl) (w_X12_isHand hn1 hn2 (d + 111) hE k4) (fun h hE => ?_)
  by_cases c5 : r3 = 0
  · have hf := zif_t hf c5
    refine z_if_eq_t (tgt := 20) dX12_cheapest_10 (by decide) c5 ?_
    refine z_ldcw dX12_cheapest_20 tK_12_389 ?_
    have e_ := Option.some.inj hf
    subst e_
    exact z_ireturn dX12_cheapest_23 rfl ⟨h, rfl, rfl, hE⟩
  · have hf := zif_f hf c5
    refine z_if_eq_f (tgt := 20) dX12_cheapest_10 (by decide) c5 ?_
    refine z_aload_n dX12_cheapest_13 rfl ?_
    obtain ⟨r7, S6, k8, hf⟩ := zb_some hf
    refine z_callVi dX12_cheapest_14 tM_12_364 mt_12058 (Nat.le_of_ble_eq_true rfl) rfl rfl (z_recv hE dr_41 rfl) rfl (ia_oks_le hn1 rfl) (Nat.le_of_ble_eq_true rfl) (w_X12_canWork hn1 hn2 (d + 110) hE k8) (fun h hE => ?_)
    by_cases c9 : ¬ r7 = 0
    · have hf := zif_t hf c9
      refine z_if_ne_t (tgt := 24) dX12_cheapest_17 (by decide) c9 ?_
      refine z_aload_n dX12_cheapest_24 rfl ?_
      refine z_aload_n dX12_cheapest_25 rfl ?_
      refine z_getC dX12_cheapest_26 tF_12_61 hE dr_41 rfl rfl ?_
      refine z_iload_n dX12_cheapest_29 rfl ?_
      refine z_iconst (v := (-1)) dX12_cheapest_30 (by decide) ?_
      obtain ⟨r11, S10, k12, hf⟩ := zb_some hf
      refine z_callVi dX12_cheapest_31 tM_12_434 mt_12089 (Nat.le_of_ble_eq_true rfl) rfl rfl (z_recv hE dr_41 rfl) rfl (ia_oks_le hn1 rfl) (Nat.le_of_ble_eq_true rfl) (w_X12_wouldOpen hn1 hn2 (d + 0) rw_54 hE k12) (fun h hE => ?_)
      by_cases c13 : r11 = 0
      · have hf := zif_t hf c13
        refine z_if_eq_t (tgt := 39) dX12_cheapest_34 (by decide) c13 ?_
        refine z_ldcw dX12_cheapest_39 tK_12_389 ?_
        refine z_istore_n (lv' := [(2, .int (-1000000)), (0, .ref 41), (1, .int v1)]) dX12_cheapest_42 (by decide) rfl ?_
        refine z_iconst (v := 0) dX12_cheapest_43 (by decide) ?_
        refine z_istore_n (lv' := [(3, .int 0), (2, .int (-1000000)), (0, .ref 41), (1, .int v1)]) dX12_cheapest_44 (by decide) rfl ?_
        refine zW.sub (w_X12_cheapest_L45 hn1 hn2 d (fun q29 q30 S28 h hE hf => ?_) zN (-1000000) 0 S10 h hE hf) [2, 3, 1, 0] rfl rfl rfl rfl
        try dsimp only at hf
        refine z_iload_n dX12_cheapest_104 rfl ?_
        have e_ := Option.some.inj hf
        subst e_
        exact z_ireturn dX12_cheapest_105 rfl ⟨h, rfl, rfl, hE⟩
      · have hf := zif_f hf c13
        refine z_if_eq_f (tgt := 39) dX12_cheapest_34 (by decide) c13 ?_
        refine z_iconst (v := (-1)) dX12_cheapest_37 (by decide) ?_
        have e_ := Option.some.inj hf
        subst e_
        exact z_ireturn dX12_cheapest_38 rfl ⟨h, rfl, rfl, hE⟩
    · have hf := zif_f hf c9
      refine z_if_ne_f (tgt := 24) dX12_cheapest_17 (by decide) c9 ?_
      refine z_ldcw dX12_cheapest_20 tK_12_389 ?_
      have e_ := Option.some.inj hf
      subst e_
      exact z_ireturn dX12_cheapest_23 rfl ⟨h, rfl, rfl, hE⟩
def f_X12_safe  (S : zS) : Option (Int32 × zS) :=
zl (sV S 41 0 0) fun S1 =>
zb (f_X12_canWork S1) fun r3 S2 =>
if r3 = 0 then
some ((-1), S2)
else
if ia_in ((6 * (S2.1 54 64)) + 5) 24 = true then
if ia_in ((7 * (S2.1 54 64)) + 3) 66 = true then
some (if ((S2.1 46 ((6 * (S2.1 54 64)) + 5).toNatClampNeg) - (S2.1 54 ((7 * (S2.1 54 64)) + 3).toNatClampNeg)) < 60 then ((S2.1 46 ((6 * (S2.1 54 64)) + 5).toNatClampNeg) - (S2.1 54 ((7 * (S2.1 54 64)) + 3).toNatClampNeg)) else 60, S2)
else none
else none
theorem w_X12_safe {L : Nat} {xs : Nat → Int32} {fm : Bool} {h0 : Nat → va_E} {t : Nat × Nat × Nat} (hn1 : 64 ≤ t.1) (hn2 : t.1 ≤ 1000000) (d : Nat) {h : Nat → va_E} {S : zS} (hE : zE zDr h0 S (h, t)) {R : Int32 × zS} (hf : f_X12_safe  S = some R) : zC (ia_P0 L xs fm) (d + 3) 12090 [.ref 41] (h, t) (zQi zDr h0 t R) := by
  refine zC_of mt_12090 nn_12090 (Nat.le_of_ble_eq_true rfl) ?_
  refine zW_lv (lv' := [(0, .ref 41)]) rfl ?_
  unfold f_X12_safe at hf
  refine z_aload_n dX12_safe_0 rfl ?_
  refine z_iconst (v := 0) dX12_safe_1 (by decide) ?_
  obtain ⟨S1, eS1, hf⟩ := zl_some hf
  refine z_putI dX12_safe_2 tF_12_93 hE dr_41 rfl rfl rfl rfl (fun h hE => ?_)
  rw [← eS1] at hE
  refine z_aload_n dX12_safe_5 rfl ?_
  obtain ⟨r3, S2, k4, hf⟩ := zb_some hf
  refine z_callVi dX12_safe_6 tM_12_364 mt_12058 (Nat.le_of_ble_eq_true rfl) rfl rfl (z_recv hE dr_41 rfl) rfl (ia_oks_le hn1 rfl) (Nat.le_of_ble_eq_true rfl) (w_X12_canWork hn1 hn2 (d + 0) hE k4) (fun h hE => ?_)
  by_cases c5 : r3 = 0
  · have hf := zif_t hf c5
    refine z_if_eq_t (tgt := 55) dX12_safe_9 (by decide) c5 ?_
    refine z_iconst (v := (-1)) dX12_safe_55 (by decide) ?_
    have e_ := Option.some.inj hf
    subst e_
    exact z_ireturn dX12_safe_56 rfl ⟨h, rfl, rfl, hE⟩
  · have hf := zif_f hf c5
    refine z_if_eq_f (tgt := 55) dX12_safe_9 (by decide) c5 ?_
    refine z_bipush (v := 60) dX12_safe_12 (by decide) ?_
    refine z_aload_n dX12_safe_14 rfl ?_
    refine z_getC dX12_safe_15 tF_12_37 hE dr_41 rfl rfl ?_
    refine z_bipush (v := 6) dX12_safe_18 (by decide) ?_
    refine z_aload_n dX12_safe_20 rfl ?_
    refine z_getC dX12_safe_21 tF_12_61 hE dr_41 rfl rfl ?_
    refine z_bipush (v := 64) dX12_safe_24 (by decide) ?_
    refine z_ialoadL (i := 64) dX12_safe_26 hE dr_54 (by decide) (by decide) ?_
    refine z_imul dX12_safe_27 ?_
    refine z_iconst (v := 5) dX12_safe_28 (by decide) ?_
    refine z_iadd dX12_safe_29 ?_
    obtain ⟨b6, hf⟩ := zchk hf
    refine z_ialoadL dX12_safe_30 hE dr_46 b6 rfl ?_
    refine z_aload_n dX12_safe_31 rfl ?_
    refine z_getC dX12_safe_32 tF_12_61 hE dr_41 rfl rfl ?_
    refine z_bipush (v := 7) dX12_safe_35 (by decide) ?_
    refine z_aload_n dX12_safe_37 rfl ?_
    refine z_getC dX12_safe_38 tF_12_61 hE dr_41 rfl rfl ?_
    refine z_bipush (v := 64) dX12_safe_41 (by decide) ?_
    refine z_ialoadL (i := 64) dX12_safe_43 hE dr_54 (by decide) (by decide) ?_
    refine z_imul dX12_safe_44 ?_
    refine z_iconst (v := 3) dX12_safe_45 (by decide) ?_
    refine z_iadd dX12_safe_46 ?_
    obtain ⟨b7, hf⟩ := zchk hf
    refine z_ialoadL dX12_safe_47 hE dr_54 b7 rfl ?_
    refine z_isub dX12_safe_48 ?_
    refine z_mmin dX12_safe_49 tM_12_310 (Nat.le_of_ble_eq_true rfl) ?_
    refine z_goto (tgt := 56) dX12_safe_52 (by decide) ?_
    have e_ := Option.some.inj hf
    subst e_
    exact z_ireturn dX12_safe_56 rfl ⟨h, rfl, rfl, hE⟩
def f_X12_enough_L32 (ex : Int32 → zS → Option (Int32 × zS)) (i1 : Int32) (i2 : Int32) : Nat → Int32 → zS → Option (Int32 × zS)
  | 0, _, _ => none
  | k + 1, x3, S =>
    if 60 < x3 then
    ex x3 S
    else
    zb (f_X12_copy_rw_rw 54 55 S) fun _ S15 =>
    zl (fun (S20 : zS) =>
    zb (f_X12_isDone 55 S20) fun r22 S21 =>
    zl (fun (S26 : zS) =>
    zl (x3 + 1) fun (y27 : Int32) =>
    f_X12_enough_L32 ex i1 i2 k y27 S26) fun J25 =>
    if ¬ r22 = 0 then
    J25 S21
    else
    zb (f_X12_wouldOpen 55 i1 i2 S21) fun r29 S28 =>
    if r29 = 0 then
    J25 S28
    else
    some (x3, S28)) fun J19 =>
    if x3 ≤ 0 then
    J19 S15
    else
    zb (f_X12_heats 55 x3 S15) fun _ S32 =>
    J19 S32
def f_X12_enough (v1 : Int32) (v2 : Int32) (S : zS) : Option (Int32 × zS) :=
zl (sV S 41 0 0) fun S1 =>
zb (f_X12_isHand v1 S1) fun r3 S2 =>
if r3 = 0 then
some ((-1), S2)
else
zb (f_X12_isTool v2 S2) fun r7 S6 =>
if r7 = 0 then
some ((-1), S6)
else
zb (f_X12_canWork S6) fun r11 S10 =>
if ¬ r11 = 0 then
f_X12_enough_L32 (fun (q36 : Int32) (S35 : zS) =>
some ((-1), S35)) v1 v2 zN 0 S10
else
some ((-1), S10)
theorem w_X12_enough_L32 {L : Nat} {xs : Nat → Int32} {fm : Bool} {h0 : Nat → va_E} {t : Nat × Nat × Nat} (hn1 : 64 ≤ t.1) (hn2 : t.1 ≤ 1000000) (d : Nat) {ex : Int32 → zS → Option (Int32 × zS)} {i1 : Int32} {i2 : Int32} {R : Int32 × zS} (hex : ∀ (x3 : Int32) (S : zS) (h : Nat → va_E), zE zDr h0 S (h, t) → ex x3 S = some R → zW (ia_P0 L xs fm) ia_nx (d + 112) 12 false cX12_enough 4 (some .int) 94 [(0, .ref 41), (1, .int i1), (2, .int i2), (3, .int x3)] [] (h, t) (zQi zDr h0 t R)) : ∀ (k : Nat) (x3 : Int32) (S : zS) (h : Nat → va_E), zE zDr h0 S (h, t) → f_X12_enough_L32 ex i1 i2 k x3 S = some R → zW (ia_P0 L xs fm) ia_nx (d + 112) 12 false cX12_enough 4 (some .int) 32 [(0, .ref 41), (1, .int i1), (2, .int i2), (3, .int x3)] [] (h, t) (zQi zDr h0 t R) := by
  intro k
  induction k with
  | zero => intro x3 S h hE hf; cases hf
  | succ k ih =>
    intro x3 S h hE hf
    unfold f_X12_enough_L32 at hf
    refine z_iload_n dX12_enough_32 rfl ?_
    refine z_bipush (v := 60) dX12_enough_33 (by decide) ?_
    by_cases c14 : 60 < x3
    · have hf := zif_t hf c14
      refine z_icmp_gt_t (tgt := 94) dX12_enough_35 (by decide) c14 ?_
      exact zW.sub (hex x3 S _ hE hf) [0, 1, 2, 3] rfl rfl rfl rfl
    · have hf := zif_f hf c14
      refine z_icmp_gt_f (tgt := 94) dX12_enough_35 (by decide) c14 ?_
      refine z_aload_n dX12_enough_38 rfl ?_
      refine z_aload_n dX12_enough_39 rfl ?_
      refine z_getC dX12_enough_40 tF_12_61 hE dr_41 rfl rfl ?_
      refine z_aload_n dX12_enough_43 rfl ?_
      refine z_getC dX12_enough_44 tF_12_64 hE dr_41 rfl rfl ?_
      obtain ⟨r16, S15, k17, hf⟩ := zb_some hf
      refine z_callVv dX12_enough_47 tM_12_404 mt_12079 (Nat.le_of_ble_eq_true rfl) rfl rfl (z_recv hE dr_41 rfl) rfl (ia_oks_le hn1 rfl) (Nat.le_of_ble_eq_true rfl) (w_X12_copy_rw_rw hn1 hn2 (d + 111) rw_54 rw_55 hE k17) (fun h hE => ?_)
      refine z_iload_n dX12_enough_50 rfl ?_
      obtain ⟨J19, eJ19, hf⟩ := zl_some hf
      have hJ19 : ∀ (S20 : zS) (h : Nat → va_E), zE zDr h0 S20 (h, t) → J19 S20 = some R → zW (ia_P0 L xs fm) ia_nx (d + 112) 12 false cX12_enough 4 (some .int) 63 [(0, .ref 41), (1, .int i1), (2, .int i2), (3, .int x3)] [] (h, t) (zQi zDr h0 t R) := by
        intro S20 h hE hf
        rw [eJ19] at hf
        refine z_aload_n dX12_enough_63 rfl ?_
        refine z_getC dX12_enough_64 tF_12_64 hE dr_41 rfl rfl ?_
        obtain ⟨r22, S21, k23, hf⟩ := zb_some hf
        refine z_callSi dX12_enough_67 tM_12_354 (by decide) mt_12053 (Nat.le_of_ble_eq_true rfl) rfl rfl (ia_oks_le hn1 rfl) (Nat.le_of_ble_eq_true rfl) (w_X12_isDone hn1 hn2 (d + 111) rw_55 hE k23) (fun h hE => ?_)
        obtain ⟨J25, eJ25, hf⟩ := zl_some hf
        have hJ25 : ∀ (S26 : zS) (h : Nat → va_E), zE zDr h0 S26 (h, t) → J25 S26 = some R → zW (ia_P0 L xs fm) ia_nx (d + 112) 12 false cX12_enough 4 (some .int) 88 [(0, .ref 41), (1, .int i1), (2, .int i2), (3, .int x3)] [] (h, t) (zQi zDr h0 t R) := by
          intro S26 h hE hf
          rw [eJ25] at hf
          obtain ⟨y27, ey27, hf⟩ := zl_some hf
          refine z_iincY (v := 1) (y := y27) (lv' := [(3, .int y27), (0, .ref 41), (1, .int i1), (2, .int i2)]) dX12_enough_88 rfl (by decide) (by decide) ey27 rfl ?_
          refine z_goto (tgt := 32) dX12_enough_91 (by decide) ?_
          exact zW.sub (ih y27 S26 _ hE hf) [1, 2, 3, 0] rfl rfl rfl rfl
        by_cases c24 : ¬ r22 = 0
        · have hf := zif_t hf c24
          refine z_if_ne_t (tgt := 88) dX12_enough_70 (by decide) c24 ?_
          exact zW.sub (hJ25 S21 _ hE hf) [0, 1, 2, 3] rfl rfl rfl rfl
        · have hf := zif_f hf c24
          refine z_if_ne_f (tgt := 88) dX12_enough_70 (by decide) c24 ?_
          refine z_aload_n dX12_enough_73 rfl ?_
          refine z_aload_n dX12_enough_74 rfl ?_
          refine z_getC dX12_enough_75 tF_12_64 hE dr_41 rfl rfl ?_
          refine z_iload_n dX12_enough_78 rfl ?_
          refine z_iload_n dX12_enough_79 rfl ?_
          obtain ⟨r29, S28, k30, hf⟩ := zb_some hf
          refine z_callVi dX12_enough_80 tM_12_434 mt_12089 (Nat.le_of_ble_eq_true rfl) rfl rfl (z_recv hE dr_41 rfl) rfl (ia_oks_le hn1 rfl) (Nat.le_of_ble_eq_true rfl) (w_X12_wouldOpen hn1 hn2 (d + 0) rw_55 hE k30) (fun h hE => ?_)
          by_cases c31 : r29 = 0
          · have hf := zif_t hf c31
            refine z_if_eq_t (tgt := 88) dX12_enough_83 (by decide) c31 ?_
            exact zW.sub (hJ25 S28 _ hE hf) [0, 1, 2, 3] rfl rfl rfl rfl
          · have hf := zif_f hf c31
            refine z_if_eq_f (tgt := 88) dX12_enough_83 (by decide) c31 ?_
            refine z_iload_n dX12_enough_86 rfl ?_
            have e_ := Option.some.inj hf
            subst e_
            exact z_ireturn dX12_enough_87 rfl ⟨h, rfl, rfl, hE⟩
      by_cases c18 : x3 ≤ 0
      · have hf := zif_t hf c18
        refine z_if_le_t (tgt := 63) dX12_enough_51 (by decide) c18 ?_
        exact zW.sub (hJ19 S15 _ hE hf) [0, 1, 2, 3] rfl rfl rfl rfl
      · have hf := zif_f hf c18
        refine z_if_le_f (tgt := 63) dX12_enough_51 (by decide) c18 ?_
        refine z_aload_n dX12_enough_54 rfl ?_
        refine z_aload_n dX12_enough_55 rfl ?_
        refine z_getC dX12_enough_56 tF_12_64 hE dr_41 rfl rfl ?_
        refine z_iload_n dX12_enough_59 rfl ?_
        obtain ⟨r33, S32, k34, hf⟩ := zb_some hf
        refine z_callVv dX12_enough_60 tM_12_341 mt_12059 (Nat.le_of_ble_eq_true rfl) rfl rfl (z_recv hE dr_41 rfl) rfl (ia_oks_le hn1 rfl) (Nat.le_of_ble_eq_true rfl) (w_X12_heats hn1 hn2 (d + 111) rw_55 hE k34) (fun h hE => ?_)
        exact zW.sub (hJ19 S32 _ hE hf) [0, 1, 2, 3] rfl rfl rfl rfl
theorem w_X12_enough {L : Nat} {xs : Nat → Int32} {fm : Bool} {h0 : Nat → va_E} {t : Nat × Nat × Nat} (hn1 : 64 ≤ t.1) (hn2 : t.1 ≤ 1000000) (d : Nat) {h : Nat → va_E} {S : zS} (hE : zE zDr h0 S (h, t)) {v1 : Int32} {v2 : Int32} {R : Int32 × zS} (hf : f_X12_enough v1 v2 S = some R) : zC (ia_P0 L xs fm) (d + 113) 12091 [.ref 41, .int v1, .int v2] (h, t) (zQi zDr h0 t R) := by
  refine zC_of mt_12091 nn_12091 (Nat.le_of_ble_eq_true rfl) ?_
  refine zW_lv (lv' := [(0, .ref 41), (1, .int v1), (2, .int v2)]) rfl ?_
  unfold f_X12_enough at hf
  refine z_aload_n dX12_enough_0 rfl ?_
  refine z_iconst (v := 0) dX12_enough_1 (by decide) ?_
  obtain ⟨S1, eS1, hf⟩ := zl_some hf
  refine z_putI dX12_enough_2 tF_12_93 hE dr_41 rfl rfl rfl rfl (fun h hE => ?_)
  rw [← eS1] at hE
  refine z_aload_n dX12_enough_5 rfl ?_
  refine z_iload_n dX12_enough_6 rfl ?_
  obtain ⟨r3, S2, k4, hf⟩ := zb_some hf
  refine z_callVi dX12_enough_7 tM_12_325 mt_12043 (Nat.le_of_ble_eq_true rfl) rfl rfl (z_recv hE dr_41 rfl) rfl (ia_oks_le hn1 rfl) (Nat.le_of_ble_eq_true rfl) (w_X12_isHand hn1 hn2 (d + 111) hE k4) (fun h hE => ?_)
  by_cases c5 : r3 = 0
  · have hf := zif_t hf c5
    refine z_if_eq_t (tgt := 28) dX12_enough_10 (by decide) c5 ?_
    refine z_iconst (v := (-1)) dX12_enough_28 (by decide) ?_
    have e_ := Option.some.inj hf
    subst e_
    exact z_ireturn dX12_enough_29 rfl ⟨h, rfl, rfl, hE⟩
  · have hf := zif_f hf c5
    refine z_if_eq_f (tgt := 28) dX12_enough_10 (by decide) c5 ?_
    refine z_aload_n dX12_enough_13 rfl ?_
    refine z_iload_n dX12_enough_14 rfl ?_
    obtain ⟨r7, S6, k8, hf⟩ := zb_some hf
    refine z_callVi dX12_enough_15 tM_12_330 mt_12048 (Nat.le_of_ble_eq_true rfl) rfl rfl (z_recv hE dr_41 rfl) rfl (ia_oks_le hn1 rfl) (Nat.le_of_ble_eq_true rfl) (w_X12_isTool hn1 hn2 (d + 110) hE k8) (fun h hE => ?_)
    by_cases c9 : r7 = 0
    · have hf := zif_t hf c9
      refine z_if_eq_t (tgt := 28) dX12_enough_18 (by decide) c9 ?_
      refine z_iconst (v := (-1)) dX12_enough_28 (by decide) ?_
      have e_ := Option.some.inj hf
      subst e_
      exact z_ireturn dX12_enough_29 rfl ⟨h, rfl, rfl, hE⟩
    · have hf := zif_f hf c9
      refine z_if_eq_f (tgt := 28) dX12_enough_18 (by decide) c9 ?_
      refine z_aload_n dX12_enough_21 rfl ?_
      obtain ⟨r11, S10, k12, hf⟩ := zb_some hf
      refine z_callVi dX12_enough_22 tM_12_364 mt_12058 (Nat.le_of_ble_eq_true rfl) rfl rfl (z_recv hE dr_41 rfl) rfl (ia_oks_le hn1 rfl) (Nat.le_of_ble_eq_true rfl) (w_X12_canWork hn1 hn2 (d + 110) hE k12) (fun h hE => ?_)
      by_cases c13 : ¬ r11 = 0
      · have hf := zif_t hf c13
        refine z_if_ne_t (tgt := 30) dX12_enough_25 (by decide) c13 ?_
        refine z_iconst (v := 0) dX12_enough_30 (by decide) ?_
        refine z_istore_n (lv' := [(3, .int 0), (0, .ref 41), (1, .int v1), (2, .int v2)]) dX12_enough_31 (by decide) rfl ?_
        refine zW.sub (w_X12_enough_L32 hn1 hn2 d (fun q36 S35 h hE hf => ?_) zN 0 S10 h hE hf) [1, 2, 3, 0] rfl rfl rfl rfl
        try dsimp only at hf
        refine z_iconst (v := (-1)) dX12_enough_94 (by decide) ?_
        have e_ := Option.some.inj hf
        subst e_
        exact z_ireturn dX12_enough_95 rfl ⟨h, rfl, rfl, hE⟩
      · have hf := zif_f hf c13
        refine z_if_ne_f (tgt := 30) dX12_enough_25 (by decide) c13 ?_
        refine z_iconst (v := (-1)) dX12_enough_28 (by decide) ?_
        have e_ := Option.some.inj hf
        subst e_
        exact z_ireturn dX12_enough_29 rfl ⟨h, rfl, rfl, hE⟩
def f_X12_gripTold (v1 : Int32) (v2 : Int32) (v3 : Int32) (S : zS) : Option (Int32 × zS) :=
if ia_in (5 * v1) 30 = true then
if ia_in ((5 * v1) + 1) 30 = true then
if ia_in ((5 * v1) + 2) 30 = true then
if ia_in ((6 * v3) + 4) 24 = true then
if ia_in ((6 * v3) + 2) 24 = true then
zl (fun (q8 : Int32) =>
zb (f_X12_gripBy (S.1 48 (5 * v1).toNatClampNeg) (S.1 48 ((5 * v1) + 1).toNatClampNeg) (S.1 48 ((5 * v1) + 2).toNatClampNeg) (S.1 46 ((6 * v3) + 4).toNatClampNeg) (S.1 46 ((6 * v3) + 2).toNatClampNeg) q8 S) fun r10 S9 =>
some (r10, S9)) fun J7 =>
if ¬ v2 = (-1) then
if ia_in (2 * v2) 8 = true then
J7 (S.1 50 (2 * v2).toNatClampNeg)
else none
else
J7 0
else none
else none
else none
else none
else none
theorem w_X12_gripTold {L : Nat} {xs : Nat → Int32} {fm : Bool} {h0 : Nat → va_E} {t : Nat × Nat × Nat} (hn1 : 64 ≤ t.1) (hn2 : t.1 ≤ 1000000) (d : Nat) {h : Nat → va_E} {S : zS} (hE : zE zDr h0 S (h, t)) {v1 : Int32} {v2 : Int32} {v3 : Int32} {R : Int32 × zS} (hf : f_X12_gripTold v1 v2 v3 S = some R) : zC (ia_P0 L xs fm) (d + 111) 12094 [.ref 41, .int v1, .int v2, .int v3] (h, t) (zQi zDr h0 t R) := by
  refine zC_of mt_12094 nn_12094 (Nat.le_of_ble_eq_true rfl) ?_
  refine zW_lv (lv' := [(0, .ref 41), (1, .int v1), (2, .int v2), (3, .int v3)]) rfl ?_
  unfold f_X12_gripTold at hf
  refine z_aload_n dX12_gripTold_0 rfl ?_
  refine z_aload_n dX12_gripTold_1 rfl ?_
  refine z_getC dX12_gripTold_2 tF_12_43 hE dr_41 rfl rfl ?_
  refine z_iconst (v := 5) dX12_gripTold_5 (by decide) ?_
  refine z_iload_n dX12_gripTold_6 rfl ?_
  refine z_imul dX12_gripTold_7 ?_
  obtain ⟨b1, hf⟩ := zchk hf
  refine z_ialoadL dX12_gripTold_8 hE dr_48 b1 rfl ?_
  refine z_aload_n dX12_gripTold_9 rfl ?_
  refine z_getC dX12_gripTold_10 tF_12_43 hE dr_41 rfl rfl ?_
  refine z_iconst (v := 5) dX12_gripTold_13 (by decide) ?_
  refine z_iload_n dX12_gripTold_14 rfl ?_
  refine z_imul dX12_gripTold_15 ?_
  refine z_iconst (v := 1) dX12_gripTold_16 (by decide) ?_
  refine z_iadd dX12_gripTold_17 ?_
  obtain ⟨b2, hf⟩ := zchk hf
  refine z_ialoadL dX12_gripTold_18 hE dr_48 b2 rfl ?_
  refine z_aload_n dX12_gripTold_19 rfl ?_
  refine z_getC dX12_gripTold_20 tF_12_43 hE dr_41 rfl rfl ?_
  refine z_iconst (v := 5) dX12_gripTold_23 (by decide) ?_
  refine z_iload_n dX12_gripTold_24 rfl ?_
  refine z_imul dX12_gripTold_25 ?_
  refine z_iconst (v := 2) dX12_gripTold_26 (by decide) ?_
  refine z_iadd dX12_gripTold_27 ?_
  obtain ⟨b3, hf⟩ := zchk hf
  refine z_ialoadL dX12_gripTold_28 hE dr_48 b3 rfl ?_
  refine z_aload_n dX12_gripTold_29 rfl ?_
  refine z_getC dX12_gripTold_30 tF_12_37 hE dr_41 rfl rfl ?_
  refine z_bipush (v := 6) dX12_gripTold_33 (by decide) ?_
  refine z_iload_n dX12_gripTold_35 rfl ?_
  refine z_imul dX12_gripTold_36 ?_
  refine z_iconst (v := 4) dX12_gripTold_37 (by decide) ?_
  refine z_iadd dX12_gripTold_38 ?_
  obtain ⟨b4, hf⟩ := zchk hf
  refine z_ialoadL dX12_gripTold_39 hE dr_46 b4 rfl ?_
  refine z_aload_n dX12_gripTold_40 rfl ?_
  refine z_getC dX12_gripTold_41 tF_12_37 hE dr_41 rfl rfl ?_
  refine z_bipush (v := 6) dX12_gripTold_44 (by decide) ?_
  refine z_iload_n dX12_gripTold_46 rfl ?_
  refine z_imul dX12_gripTold_47 ?_
  refine z_iconst (v := 2) dX12_gripTold_48 (by decide) ?_
  refine z_iadd dX12_gripTold_49 ?_
  obtain ⟨b5, hf⟩ := zchk hf
  refine z_ialoadL dX12_gripTold_50 hE dr_46 b5 rfl ?_
  refine z_iload_n dX12_gripTold_51 rfl ?_
  refine z_iconst (v := (-1)) dX12_gripTold_52 (by decide) ?_
  obtain ⟨J7, eJ7, hf⟩ := zl_some hf
  have hJ7 : ∀ (q8 : Int32) (h : Nat → va_E), zE zDr h0 S (h, t) → J7 q8 = some R → zW (ia_P0 L xs fm) ia_nx (d + 110) 12 false cX12_gripTold 4 (some .int) 68 [(0, .ref 41), (1, .int v1), (2, .int v2), (3, .int v3)] [.int q8, .int (S.1 46 ((6 * v3) + 2).toNatClampNeg), .int (S.1 46 ((6 * v3) + 4).toNatClampNeg), .int (S.1 48 ((5 * v1) + 2).toNatClampNeg), .int (S.1 48 ((5 * v1) + 1).toNatClampNeg), .int (S.1 48 (5 * v1).toNatClampNeg), .ref 41] (h, t) (zQi zDr h0 t R) := by
    intro q8 h hE hf
    rw [eJ7] at hf
    obtain ⟨r10, S9, k11, hf⟩ := zb_some hf
    refine z_callVi dX12_gripTold_68 tM_12_312 mt_12050 (Nat.le_of_ble_eq_true rfl) rfl rfl (z_recv hE dr_41 rfl) rfl (ia_oks_le hn1 rfl) (Nat.le_of_ble_eq_true rfl) (w_X12_gripBy hn1 hn2 (d + 0) hE k11) (fun h hE => ?_)
    have e_ := Option.some.inj hf
    subst e_
    exact z_ireturn dX12_gripTold_71 rfl ⟨h, rfl, rfl, hE⟩
  by_cases c6 : ¬ v2 = (-1)
  · have hf := zif_t hf c6
    refine z_icmp_ne_t (tgt := 60) dX12_gripTold_53 (by decide) c6 ?_
    refine z_aload_n dX12_gripTold_60 rfl ?_
    refine z_getC dX12_gripTold_61 tF_12_49 hE dr_41 rfl rfl ?_
    refine z_iconst (v := 2) dX12_gripTold_64 (by decide) ?_
    refine z_iload_n dX12_gripTold_65 rfl ?_
    refine z_imul dX12_gripTold_66 ?_
    obtain ⟨b12, hf⟩ := zchk hf
    refine z_ialoadL dX12_gripTold_67 hE dr_50 b12 rfl ?_
    exact zW.sub (hJ7 (S.1 50 (2 * v2).toNatClampNeg) _ hE hf) [0, 1, 2, 3] rfl rfl rfl rfl
  · have hf := zif_f hf c6
    refine z_icmp_ne_f (tgt := 60) dX12_gripTold_53 (by decide) c6 ?_
    refine z_iconst (v := 0) dX12_gripTold_56 (by decide) ?_
    refine z_goto (tgt := 68) dX12_gripTold_57 (by decide) ?_
    exact zW.sub (hJ7 0 _ hE hf) [0, 1, 2, 3] rfl rfl rfl rfl
def f_X12_opensTold (v1 : Int32) (v2 : Int32) (v3 : Int32) (v4 : Int32) (S : zS) : Option (Int32 × zS) :=
zb (f_X12_gripTold v1 v2 v3 S) fun r2 S1 =>
if ia_in ((6 * v3) + 1) 24 = true then
if ia_in ((6 * v3) + 2) 24 = true then
if r2 < ((v4 + (S1.1 46 ((6 * v3) + 1).toNatClampNeg)) + (2 * (S1.1 46 ((6 * v3) + 2).toNatClampNeg))) then
some (0, S1)
else
some (1, S1)
else none
else none
theorem w_X12_opensTold {L : Nat} {xs : Nat → Int32} {fm : Bool} {h0 : Nat → va_E} {t : Nat × Nat × Nat} (hn1 : 64 ≤ t.1) (hn2 : t.1 ≤ 1000000) (d : Nat) {h : Nat → va_E} {S : zS} (hE : zE zDr h0 S (h, t)) {v1 : Int32} {v2 : Int32} {v3 : Int32} {v4 : Int32} {R : Int32 × zS} (hf : f_X12_opensTold v1 v2 v3 v4 S = some R) : zC (ia_P0 L xs fm) (d + 112) 12093 [.ref 41, .int v1, .int v2, .int v3, .int v4] (h, t) (zQi zDr h0 t R) := by
  refine zC_of mt_12093 nn_12093 (Nat.le_of_ble_eq_true rfl) ?_
  refine zW_lv (lv' := [(0, .ref 41), (1, .int v1), (2, .int v2), (3, .int v3), (4, .int v4)]) rfl ?_
  unfold f_X12_opensTold at hf
  refine z_aload_n dX12_opensTold_0 rfl ?_
  refine z_iload_n dX12_opensTold_1 rfl ?_
  refine z_iload_n dX12_opensTold_2 rfl ?_
  refine z_iload_n dX12_opensTold_3 rfl ?_
  obtain ⟨r2, S1, k3, hf⟩ := zb_some hf
  refine z_callVi dX12_opensTold_4 tM_12_438 mt_12094 (Nat.le_of_ble_eq_true rfl) rfl rfl (z_recv hE dr_41 rfl) rfl (ia_oks_le hn1 rfl) (Nat.le_of_ble_eq_true rfl) (w_X12_gripTold hn1 hn2 (d + 0) hE k3) (fun h hE => ?_)
  refine z_iload dX12_opensTold_7 rfl ?_
  refine z_aload_n dX12_opensTold_9 rfl ?_
  refine z_getC dX12_opensTold_10 tF_12_37 hE dr_41 rfl rfl ?_
  refine z_bipush (v := 6) dX12_opensTold_13 (by decide) ?_
  refine z_iload_n dX12_opensTold_15 rfl ?_
  refine z_imul dX12_opensTold_16 ?_
  refine z_iconst (v := 1) dX12_opensTold_17 (by decide) ?_
  refine z_iadd dX12_opensTold_18 ?_
  obtain ⟨b4, hf⟩ := zchk hf
  refine z_ialoadL dX12_opensTold_19 hE dr_46 b4 rfl ?_
  refine z_iadd dX12_opensTold_20 ?_
  refine z_iconst (v := 2) dX12_opensTold_21 (by decide) ?_
  refine z_aload_n dX12_opensTold_22 rfl ?_
  refine z_getC dX12_opensTold_23 tF_12_37 hE dr_41 rfl rfl ?_
  refine z_bipush (v := 6) dX12_opensTold_26 (by decide) ?_
  refine z_iload_n dX12_opensTold_28 rfl ?_
  refine z_imul dX12_opensTold_29 ?_
  refine z_iconst (v := 2) dX12_opensTold_30 (by decide) ?_
  refine z_iadd dX12_opensTold_31 ?_
  obtain ⟨b5, hf⟩ := zchk hf
  refine z_ialoadL dX12_opensTold_32 hE dr_46 b5 rfl ?_
  refine z_imul dX12_opensTold_33 ?_
  refine z_iadd dX12_opensTold_34 ?_
  by_cases c6 : r2 < ((v4 + (S1.1 46 ((6 * v3) + 1).toNatClampNeg)) + (2 * (S1.1 46 ((6 * v3) + 2).toNatClampNeg)))
  · have hf := zif_t hf c6
    refine z_icmp_lt_t (tgt := 42) dX12_opensTold_35 (by decide) c6 ?_
    refine z_iconst (v := 0) dX12_opensTold_42 (by decide) ?_
    have e_ := Option.some.inj hf
    subst e_
    exact z_zreturn dX12_opensTold_43 rfl (by decide) ⟨h, rfl, rfl, hE⟩
  · have hf := zif_f hf c6
    refine z_icmp_lt_f (tgt := 42) dX12_opensTold_35 (by decide) c6 ?_
    refine z_iconst (v := 1) dX12_opensTold_38 (by decide) ?_
    refine z_goto (tgt := 43) dX12_opensTold_39 (by decide) ?_
    have e_ := Option.some.inj hf
    subst e_
    exact z_zreturn dX12_opensTold_43 rfl (by decide) ⟨h, rfl, rfl, hE⟩
def f_X12_common_o (hub : Int32 → Int32 → zS → Option (Int32 × zS)) (v0 : Int32) (v1 : Int32) (S : zS) : Option (Int32 × zS) :=
if ¬ v1 = 0 then
if v1 = 0 then none else
zb (hub v1 (v0 - v0 / v1 * v1) S) fun r3 S2 =>
some (r3, S2)
else
some (v0, S)
theorem w_X12_common_o {L : Nat} {xs : Nat → Int32} {fm : Bool} {h0 : Nat → va_E} {t : Nat × Nat × Nat} (hn1 : 64 ≤ t.1) (hn2 : t.1 ≤ 1000000) (d : Nat) {hub : Int32 → Int32 → zS → Option (Int32 × zS)} (hh : ∀ (a0 a1 : Int32) (h : Nat → va_E) (S : zS) (R : Int32 × zS), zE zDr h0 S (h, t) → hub a0 a1 S = some R → zC (ia_P0 L xs fm) (d + 0) 12095 [.int a0, .int a1] (h, t) (zQi zDr h0 t R)) {h : Nat → va_E} {S : zS} (hE : zE zDr h0 S (h, t)) {v0 : Int32} {v1 : Int32} {R : Int32 × zS} (hf : f_X12_common_o hub v0 v1 S = some R) : zC (ia_P0 L xs fm) (d + 1) 12095 [.int v0, .int v1] (h, t) (zQi zDr h0 t R) := by
  refine zC_of mt_12095 nn_12095 (Nat.le_of_ble_eq_true rfl) ?_
  refine zW_lv (lv' := [(0, .int v0), (1, .int v1)]) rfl ?_
  unfold f_X12_common_o at hf
  refine z_iload_n dX12_common_0 rfl ?_
  by_cases c1 : ¬ v1 = 0
  · have hf := zif_t hf c1
    refine z_if_ne_t (tgt := 8) dX12_common_1 (by decide) c1 ?_
    refine z_iload_n dX12_common_8 rfl ?_
    refine z_iload_n dX12_common_9 rfl ?_
    refine z_iload_n dX12_common_10 rfl ?_
    obtain ⟨b5, hf⟩ := zchkn hf
    refine z_irem dX12_common_11 b5 ?_
    obtain ⟨r3, S2, k4, hf⟩ := zb_some hf
    refine z_callSi dX12_common_12 tM_12_442 (by decide) mt_12095 (Nat.le_of_ble_eq_true rfl) rfl rfl (ia_oks_le hn1 rfl) (Nat.le_of_ble_eq_true rfl) ((hh v1 (v0 - v0 / v1 * v1) h S _ hE k4).mono (by omega)) (fun h hE => ?_)
    have e_ := Option.some.inj hf
    subst e_
    exact z_ireturn dX12_common_15 rfl ⟨h, rfl, rfl, hE⟩
  · have hf := zif_f hf c1
    refine z_if_ne_f (tgt := 8) dX12_common_1 (by decide) c1 ?_
    refine z_iload_n dX12_common_4 rfl ?_
    refine z_goto (tgt := 15) dX12_common_5 (by decide) ?_
    have e_ := Option.some.inj hf
    subst e_
    exact z_ireturn dX12_common_15 rfl ⟨h, rfl, rfl, hE⟩
def f_X12_common_g : Nat → Int32 → Int32 → zS → Option (Int32 × zS)
  | 0 => fun _ _ _ => none
  | g + 1 => f_X12_common_o (f_X12_common_g g)
theorem w_X12_common_g {L : Nat} {xs : Nat → Int32} {fm : Bool} {h0 : Nat → va_E} {t : Nat × Nat × Nat} (hn1 : 64 ≤ t.1) (hn2 : t.1 ≤ 1000000) (d : Nat) : ∀ g : Nat, ∀ (a0 a1 : Int32) (h : Nat → va_E) (S : zS) (R : Int32 × zS), zE zDr h0 S (h, t) → f_X12_common_g g a0 a1 S = some R → zC (ia_P0 L xs fm) (d + 1 * g + 0) 12095 [.int a0, .int a1] (h, t) (zQi zDr h0 t R) := by
  intro g
  induction g with
  | zero => intro a0 a1 h S R hE hf; cases hf
  | succ g ih => intro a0 a1 h S R hE hf; exact (w_X12_common_o hn1 hn2 (d + 1 * g) ih hE hf).mono (by omega)
def f_X12_common (a0 : Int32) (a1 : Int32) (S : zS) : Option (Int32 × zS) := f_X12_common_o (f_X12_common_g 16) a0 a1 S
theorem w_X12_common {L : Nat} {xs : Nat → Int32} {fm : Bool} {h0 : Nat → va_E} {t : Nat × Nat × Nat} (hn1 : 64 ≤ t.1) (hn2 : t.1 ≤ 1000000) (d : Nat) {h : Nat → va_E} {S : zS} (hE : zE zDr h0 S (h, t)) {a0 : Int32} {a1 : Int32} {R : Int32 × zS} (hf : f_X12_common a0 a1 S = some R) : zC (ia_P0 L xs fm) (d + 17) 12095 [.int a0, .int a1] (h, t) (zQi zDr h0 t R) :=
  (w_X12_common_o hn1 hn2 (d + 1 * 16) (w_X12_common_g hn1 hn2 d 16) hE hf).mono (by omega)
def f_X12_saves_L48 (ex : Int32 → Int32 → Int32 → zS → Option (Int32 × zS)) (i1 : Int32) (i2 : Int32) : Nat → Int32 → Int32 → Int32 → zS → Option (Int32 × zS)
  | 0, _, _, _, _ => none
  | k + 1, x3, x4, x5, S =>
    if (S.1 41 24) ≤ x5 then
    zl (x4 + 1) fun (y10 : Int32) =>
    if (S.1 41 25) ≤ y10 then
    ex x3 y10 x5 S
    else
    f_X12_saves_L48 ex i1 i2 k x3 y10 0 S
    else
    if ia_in (6 * x5) 24 = true then
    zb (f_X12_opensTold x4 i1 x5 (S.1 46 (6 * x5).toNatClampNeg) S) fun r14 S13 =>
    zl (fun (S18 : zS) =>
    zl (x3 + 0) fun (y19 : Int32) =>
    zl (x5 + 1) fun (y20 : Int32) =>
    f_X12_saves_L48 ex i1 i2 k y19 x4 y20 S18) fun J17 =>
    if r14 = 0 then
    J17 S13
    else
    if ia_in (6 * x5) 24 = true then
    zb (f_X12_opensTold x4 (-1) x5 (S13.1 46 (6 * x5).toNatClampNeg) S13) fun r23 S22 =>
    if ¬ r23 = 0 then
    J17 S22
    else
    zl (x3 + 1) fun (y26 : Int32) =>
    zl (x5 + 1) fun (y27 : Int32) =>
    f_X12_saves_L48 ex i1 i2 k y26 x4 y27 S22
    else none
    else none
def f_X12_saves_L36 (ex : Int32 → Int32 → zS → Option (Int32 × zS)) (i1 : Int32) (i2 : Int32) : Nat → Int32 → Int32 → zS → Option (Int32 × zS)
  | 0, _, _, _ => none
  | k + 1, x3, x4, S =>
    if (S.1 41 25) ≤ x4 then
    ex x3 x4 S
    else
    f_X12_saves_L48 (fun (q29 : Int32) (q30 : Int32) (q31 : Int32) (S28 : zS) =>
    ex q29 q30 S28) i1 i2 zN x3 x4 0 S
def f_X12_saves (v1 : Int32) (v2 : Int32) (S : zS) : Option (Int32 × zS) :=
zl (sV S 41 0 0) fun S1 =>
if v1 < 0 then
some ((-1), S1)
else
if (S1.1 41 26) ≤ v1 then
some ((-1), S1)
else
zb (f_X12_isIn (v2.toInt64) 0 2 S1) fun r5 S4 =>
if ¬ r5 = 0 then
f_X12_saves_L36 (fun (q33 : Int32) (q34 : Int32) (S32 : zS) =>
if ¬ v2 = 0 then
if ¬ q33 = 0 then
if ia_in ((2 * v1) + 1) 8 = true then
zb (f_X12_common (S32.1 50 ((2 * v1) + 1).toNatClampNeg) q33 S32) fun r39 S38 =>
if ¬ v2 = 1 then
if r39 = 0 then none else
some (q33 / r39, S38)
else
if ia_in ((2 * v1) + 1) 8 = true then
if r39 = 0 then none else
some ((S38.1 50 ((2 * v1) + 1).toNatClampNeg) / r39, S38)
else none
else none
else
some ((-1), S32)
else
some (q33, S32)) v1 v2 zN 0 0 S4
else
some ((-1), S4)
theorem w_X12_saves_L48 {L : Nat} {xs : Nat → Int32} {fm : Bool} {h0 : Nat → va_E} {t : Nat × Nat × Nat} (hn1 : 64 ≤ t.1) (hn2 : t.1 ≤ 1000000) (d : Nat) {ex : Int32 → Int32 → Int32 → zS → Option (Int32 × zS)} {i1 : Int32} {i2 : Int32} {R : Int32 × zS} (hex : ∀ (x3 : Int32) (x4 : Int32) (x5 : Int32) (S : zS) (h : Nat → va_E), zE zDr h0 S (h, t) → ex x3 x4 x5 S = some R → zW (ia_P0 L xs fm) ia_nx (d + 112) 12 false cX12_saves 6 (some .int) 121 [(0, .ref 41), (1, .int i1), (2, .int i2), (3, .int x3), (4, .int x4), (5, .int x5)] [] (h, t) (zQi zDr h0 t R)) : ∀ (k : Nat) (x3 : Int32) (x4 : Int32) (x5 : Int32) (S : zS) (h : Nat → va_E), zE zDr h0 S (h, t) → f_X12_saves_L48 ex i1 i2 k x3 x4 x5 S = some R → zW (ia_P0 L xs fm) ia_nx (d + 112) 12 false cX12_saves 6 (some .int) 48 [(0, .ref 41), (1, .int i1), (2, .int i2), (3, .int x3), (4, .int x4), (5, .int x5)] [] (h, t) (zQi zDr h0 t R) := by
  intro k
  induction k with
  | zero => intro x3 x4 x5 S h hE hf; cases hf
  | succ k ih =>
    intro x3 x4 x5 S h hE hf
    unfold f_X12_saves_L48 at hf
    refine z_iload dX12_saves_48 rfl ?_
    refine z_aload_n dX12_saves_50 rfl ?_
    refine z_getI dX12_saves_51 tF_12_285 hE dr_41 rfl rfl ?_
    by_cases c9 : (S.1 41 24) ≤ x5
    · have hf := zif_t hf c9
      refine z_icmp_ge_t (tgt := 115) dX12_saves_54 (by decide) c9 ?_
      obtain ⟨y10, ey10, hf⟩ := zl_some hf
      refine z_iincY (v := 1) (y := y10) (lv' := [(4, .int y10), (0, .ref 41), (1, .int i1), (2, .int i2), (3, .int x3), (5, .int x5)]) dX12_saves_115 rfl (by decide) (by decide) ey10 rfl ?_
      refine z_goto (tgt := 36) dX12_saves_118 (by decide) ?_
      refine z_iload dX12_saves_36 rfl ?_
      refine z_aload_n dX12_saves_38 rfl ?_
      refine z_getI dX12_saves_39 tF_12_288 hE dr_41 rfl rfl ?_
      by_cases c11 : (S.1 41 25) ≤ y10
      · have hf := zif_t hf c11
        refine z_icmp_ge_t (tgt := 121) dX12_saves_42 (by decide) c11 ?_
        exact zW.sub (hex x3 y10 x5 S _ hE hf) [1, 2, 3, 4, 0, 5] rfl rfl rfl rfl
      · have hf := zif_f hf c11
        refine z_icmp_ge_f (tgt := 121) dX12_saves_42 (by decide) c11 ?_
        refine z_iconst (v := 0) dX12_saves_45 (by decide) ?_
        refine z_istore (lv' := [(5, .int 0), (4, .int y10), (0, .ref 41), (1, .int i1), (2, .int i2), (3, .int x3)]) dX12_saves_46 (by decide) rfl ?_
        exact zW.sub (ih x3 y10 0 S _ hE hf) [2, 3, 4, 5, 1, 0] rfl rfl rfl rfl
    · have hf := zif_f hf c9
      refine z_icmp_ge_f (tgt := 115) dX12_saves_54 (by decide) c9 ?_
      refine z_iload_n dX12_saves_57 rfl ?_
      refine z_aload_n dX12_saves_58 rfl ?_
      refine z_iload dX12_saves_59 rfl ?_
      refine z_iload_n dX12_saves_61 rfl ?_
      refine z_iload dX12_saves_62 rfl ?_
      refine z_aload_n dX12_saves_64 rfl ?_
      refine z_getC dX12_saves_65 tF_12_37 hE dr_41 rfl rfl ?_
      refine z_bipush (v := 6) dX12_saves_68 (by decide) ?_
      refine z_iload dX12_saves_70 rfl ?_
      refine z_imul dX12_saves_72 ?_
      obtain ⟨b12, hf⟩ := zchk hf
      refine z_ialoadL dX12_saves_73 hE dr_46 b12 rfl ?_
      obtain ⟨r14, S13, k15, hf⟩ := zb_some hf
      refine z_callVi dX12_saves_74 tM_12_445 mt_12093 (Nat.le_of_ble_eq_true rfl) rfl rfl (z_recv hE dr_41 rfl) rfl (ia_oks_le hn1 rfl) (Nat.le_of_ble_eq_true rfl) (w_X12_opensTold hn1 hn2 (d + 0) hE k15) (fun h hE => ?_)
      obtain ⟨J17, eJ17, hf⟩ := zl_some hf
      have hJ17 : ∀ (S18 : zS) (h : Nat → va_E), zE zDr h0 S18 (h, t) → J17 S18 = some R → zW (ia_P0 L xs fm) ia_nx (d + 112) 12 false cX12_saves 6 (some .int) 106 [(0, .ref 41), (1, .int i1), (2, .int i2), (3, .int x3), (4, .int x4), (5, .int x5)] [.int x3] (h, t) (zQi zDr h0 t R) := by
        intro S18 h hE hf
        rw [eJ17] at hf
        refine z_iconst (v := 0) dX12_saves_106 (by decide) ?_
        refine z_iadd dX12_saves_107 ?_
        obtain ⟨y19, ey19, hf⟩ := zl_some hf
        refine z_topi ey19 ?_
        refine z_istore_n (lv' := [(3, .int y19), (0, .ref 41), (1, .int i1), (2, .int i2), (4, .int x4), (5, .int x5)]) dX12_saves_108 (by decide) rfl ?_
        obtain ⟨y20, ey20, hf⟩ := zl_some hf
        refine z_iincY (v := 1) (y := y20) (lv' := [(5, .int y20), (3, .int y19), (0, .ref 41), (1, .int i1), (2, .int i2), (4, .int x4)]) dX12_saves_109 rfl (by decide) (by decide) ey20 rfl ?_
        refine z_goto (tgt := 48) dX12_saves_112 (by decide) ?_
        exact zW.sub (ih y19 x4 y20 S18 _ hE hf) [2, 3, 4, 1, 5, 0] rfl rfl rfl rfl
      by_cases c16 : r14 = 0
      · have hf := zif_t hf c16
        refine z_if_eq_t (tgt := 106) dX12_saves_77 (by decide) c16 ?_
        exact zW.sub (hJ17 S13 _ hE hf) [0, 1, 2, 3, 4, 5] rfl rfl rfl rfl
      · have hf := zif_f hf c16
        refine z_if_eq_f (tgt := 106) dX12_saves_77 (by decide) c16 ?_
        refine z_aload_n dX12_saves_80 rfl ?_
        refine z_iload dX12_saves_81 rfl ?_
        refine z_iconst (v := (-1)) dX12_saves_83 (by decide) ?_
        refine z_iload dX12_saves_84 rfl ?_
        refine z_aload_n dX12_saves_86 rfl ?_
        refine z_getC dX12_saves_87 tF_12_37 hE dr_41 rfl rfl ?_
        refine z_bipush (v := 6) dX12_saves_90 (by decide) ?_
        refine z_iload dX12_saves_92 rfl ?_
        refine z_imul dX12_saves_94 ?_
        obtain ⟨b21, hf⟩ := zchk hf
        refine z_ialoadL dX12_saves_95 hE dr_46 b21 rfl ?_
        obtain ⟨r23, S22, k24, hf⟩ := zb_some hf
        refine z_callVi dX12_saves_96 tM_12_445 mt_12093 (Nat.le_of_ble_eq_true rfl) rfl rfl (z_recv hE dr_41 rfl) rfl (ia_oks_le hn1 rfl) (Nat.le_of_ble_eq_true rfl) (w_X12_opensTold hn1 hn2 (d + 0) hE k24) (fun h hE => ?_)
        by_cases c25 : ¬ r23 = 0
        · have hf := zif_t hf c25
          refine z_if_ne_t (tgt := 106) dX12_saves_99 (by decide) c25 ?_
          exact zW.sub (hJ17 S22 _ hE hf) [0, 1, 2, 3, 4, 5] rfl rfl rfl rfl
        · have hf := zif_f hf c25
          refine z_if_ne_f (tgt := 106) dX12_saves_99 (by decide) c25 ?_
          refine z_iconst (v := 1) dX12_saves_102 (by decide) ?_
          refine z_goto (tgt := 107) dX12_saves_103 (by decide) ?_
          refine z_iadd dX12_saves_107 ?_
          obtain ⟨y26, ey26, hf⟩ := zl_some hf
          refine z_topi ey26 ?_
          refine z_istore_n (lv' := [(3, .int y26), (0, .ref 41), (1, .int i1), (2, .int i2), (4, .int x4), (5, .int x5)]) dX12_saves_108 (by decide) rfl ?_
          obtain ⟨y27, ey27, hf⟩ := zl_some hf
          refine z_iincY (v := 1) (y := y27) (lv' := [(5, .int y27), (3, .int y26), (0, .ref 41), (1, .int i1), (2, .int i2), (4, .int x4)]) dX12_saves_109 rfl (by decide) (by decide) ey27 rfl ?_
          refine z_goto (tgt := 48) dX12_saves_112 (by decide) ?_
          exact zW.sub (ih y26 x4 y27 S22 _ hE hf) [2, 3, 4, 1, 5, 0] rfl rfl rfl rfl
theorem w_X12_saves_L36 {L : Nat} {xs : Nat → Int32} {fm : Bool} {h0 : Nat → va_E} {t : Nat × Nat × Nat} (hn1 : 64 ≤ t.1) (hn2 : t.1 ≤ 1000000) (d : Nat) {ex : Int32 → Int32 → zS → Option (Int32 × zS)} {i1 : Int32} {i2 : Int32} {R : Int32 × zS} (hex : ∀ (x3 : Int32) (x4 : Int32) (S : zS) (h : Nat → va_E), zE zDr h0 S (h, t) → ex x3 x4 S = some R → zW (ia_P0 L xs fm) ia_nx (d + 112) 12 false cX12_saves 6 (some .int) 121 [(0, .ref 41), (1, .int i1), (2, .int i2), (3, .int x3), (4, .int x4)] [] (h, t) (zQi zDr h0 t R)) : ∀ (k : Nat) (x3 : Int32) (x4 : Int32) (S : zS) (h : Nat → va_E), zE zDr h0 S (h, t) → f_X12_saves_L36 ex i1 i2 k x3 x4 S = some R → zW (ia_P0 L xs fm) ia_nx (d + 112) 12 false cX12_saves 6 (some .int) 36 [(0, .ref 41), (1, .int i1), (2, .int i2), (3, .int x3), (4, .int x4)] [] (h, t) (zQi zDr h0 t R) := by
  intro k
  induction k with
  | zero => intro x3 x4 S h hE hf; cases hf
  | succ k ih =>
    intro x3 x4 S h hE hf
    unfold f_X12_saves_L36 at hf
    refine z_iload dX12_saves_36 rfl ?_
    refine z_aload_n dX12_saves_38 rfl ?_
    refine z_getI dX12_saves_39 tF_12_288 hE dr_41 rfl rfl ?_
    by_cases c8 : (S.1 41 25) ≤ x4
    · have hf := zif_t hf c8
      refine z_icmp_ge_t (tgt := 121) dX12_saves_42 (by decide) c8 ?_
      exact zW.sub (hex x3 x4 S _ hE hf) [0, 1, 2, 3, 4] rfl rfl rfl rfl
    · have hf := zif_f hf c8
      refine z_icmp_ge_f (tgt := 121) dX12_saves_42 (by decide) c8 ?_
      refine z_iconst (v := 0) dX12_saves_45 (by decide) ?_
      refine z_istore (lv' := [(5, .int 0), (0, .ref 41), (1, .int i1), (2, .int i2), (3, .int x3), (4, .int x4)]) dX12_saves_46 (by decide) rfl ?_
      refine zW.sub (w_X12_saves_L48 hn1 hn2 d (fun q29 q30 q31 S28 h hE hf => ?_) zN x3 x4 0 S h hE hf) [1, 2, 3, 4, 5, 0] rfl rfl rfl rfl
      try dsimp only at hf
      exact zW.sub (hex q29 q30 S28 _ hE hf) [0, 1, 2, 3, 4] rfl rfl rfl rfl
theorem w_X12_saves {L : Nat} {xs : Nat → Int32} {fm : Bool} {h0 : Nat → va_E} {t : Nat × Nat × Nat} (hn1 : 64 ≤ t.1) (hn2 : t.1 ≤ 1000000) (d : Nat) {h : Nat → va_E} {S : zS} (hE : zE zDr h0 S (h, t)) {v1 : Int32} {v2 : Int32} {R : Int32 × zS} (hf : f_X12_saves v1 v2 S = some R) : zC (ia_P0 L xs fm) (d + 113) 12092 [.ref 41, .int v1, .int v2] (h, t) (zQi zDr h0 t R) := by
  refine zC_of mt_12092 nn_12092 (Nat.le_of_ble_eq_true rfl) ?_
  refine zW_lv (lv' := [(0, .ref 41), (1, .int v1), (2, .int v2)]) rfl ?_
  unfold f_X12_saves at hf
  refine z_aload_n dX12_saves_0 rfl ?_
  refine z_iconst (v := 0) dX12_saves_1 (by decide) ?_
  obtain ⟨S1, eS1, hf⟩ := zl_some hf
  refine z_putI dX12_saves_2 tF_12_93 hE dr_41 rfl rfl rfl rfl (fun h hE => ?_)
  rw [← eS1] at hE
  refine z_iload_n dX12_saves_5 rfl ?_
  by_cases c2 : v1 < 0
  · have hf := zif_t hf c2
    refine z_if_lt_t (tgt := 29) dX12_saves_6 (by decide) c2 ?_
    refine z_iconst (v := (-1)) dX12_saves_29 (by decide) ?_
    have e_ := Option.some.inj hf
    subst e_
    exact z_ireturn dX12_saves_30 rfl ⟨h, rfl, rfl, hE⟩
  · have hf := zif_f hf c2
    refine z_if_lt_f (tgt := 29) dX12_saves_6 (by decide) c2 ?_
    refine z_iload_n dX12_saves_9 rfl ?_
    refine z_aload_n dX12_saves_10 rfl ?_
    refine z_getI dX12_saves_11 tF_12_291 hE dr_41 rfl rfl ?_
    by_cases c3 : (S1.1 41 26) ≤ v1
    · have hf := zif_t hf c3
      refine z_icmp_ge_t (tgt := 29) dX12_saves_14 (by decide) c3 ?_
      refine z_iconst (v := (-1)) dX12_saves_29 (by decide) ?_
      have e_ := Option.some.inj hf
      subst e_
      exact z_ireturn dX12_saves_30 rfl ⟨h, rfl, rfl, hE⟩
    · have hf := zif_f hf c3
      refine z_icmp_ge_f (tgt := 29) dX12_saves_14 (by decide) c3 ?_
      refine z_iload_n dX12_saves_17 rfl ?_
      refine z_i2l dX12_saves_18 ?_
      refine z_lconst (v := 0) dX12_saves_19 (by decide) ?_
      refine z_ldc2 dX12_saves_20 tK_12_266 ?_
      obtain ⟨r5, S4, k6, hf⟩ := zb_some hf
      refine z_callSi dX12_saves_23 tM_12_214 (by decide) mt_12007 (Nat.le_of_ble_eq_true rfl) rfl rfl (ia_oks_le hn1 rfl) (Nat.le_of_ble_eq_true rfl) (w_X12_isIn hn1 hn2 (d + 111) hE k6) (fun h hE => ?_)
      by_cases c7 : ¬ r5 = 0
      · have hf := zif_t hf c7
        refine z_if_ne_t (tgt := 31) dX12_saves_26 (by decide) c7 ?_
        refine z_iconst (v := 0) dX12_saves_31 (by decide) ?_
        refine z_istore_n (lv' := [(3, .int 0), (0, .ref 41), (1, .int v1), (2, .int v2)]) dX12_saves_32 (by decide) rfl ?_
        refine z_iconst (v := 0) dX12_saves_33 (by decide) ?_
        refine z_istore (lv' := [(4, .int 0), (3, .int 0), (0, .ref 41), (1, .int v1), (2, .int v2)]) dX12_saves_34 (by decide) rfl ?_
        refine zW.sub (w_X12_saves_L36 hn1 hn2 d (fun q33 q34 S32 h hE hf => ?_) zN 0 0 S4 h hE hf) [2, 3, 4, 1, 0] rfl rfl rfl rfl
        try dsimp only at hf
        refine z_iload_n dX12_saves_121 rfl ?_
        by_cases c35 : ¬ v2 = 0
        · have hf := zif_t hf c35
          refine z_if_ne_t (tgt := 127) dX12_saves_122 (by decide) c35 ?_
          refine z_iload_n dX12_saves_127 rfl ?_
          by_cases c36 : ¬ q33 = 0
          · have hf := zif_t hf c36
            refine z_if_ne_t (tgt := 133) dX12_saves_128 (by decide) c36 ?_
            refine z_aload_n dX12_saves_133 rfl ?_
            refine z_getC dX12_saves_134 tF_12_49 hE dr_41 rfl rfl ?_
            refine z_iconst (v := 2) dX12_saves_137 (by decide) ?_
            refine z_iload_n dX12_saves_138 rfl ?_
            refine z_imul dX12_saves_139 ?_
            refine z_iconst (v := 1) dX12_saves_140 (by decide) ?_
            refine z_iadd dX12_saves_141 ?_
            obtain ⟨b37, hf⟩ := zchk hf
            refine z_ialoadL dX12_saves_142 hE dr_50 b37 rfl ?_
            refine z_iload_n dX12_saves_143 rfl ?_
            obtain ⟨r39, S38, k40, hf⟩ := zb_some hf
            refine z_callSi dX12_saves_144 tM_12_442 (by decide) mt_12095 (Nat.le_of_ble_eq_true rfl) rfl rfl (ia_oks_le hn1 rfl) (Nat.le_of_ble_eq_true rfl) (w_X12_common hn1 hn2 (d + 95) hE k40) (fun h hE => ?_)
            refine z_istore (lv' := [(4, .int r39), (0, .ref 41), (1, .int v1), (2, .int v2), (3, .int q33)]) dX12_saves_147 (by decide) rfl ?_
            refine z_iload_n dX12_saves_149 rfl ?_
            refine z_iconst (v := 1) dX12_saves_150 (by decide) ?_
            by_cases c41 : ¬ v2 = 1
            · have hf := zif_t hf c41
              refine z_icmp_ne_t (tgt := 170) dX12_saves_151 (by decide) c41 ?_
              refine z_iload_n dX12_saves_170 rfl ?_
              refine z_iload dX12_saves_171 rfl ?_
              obtain ⟨b42, hf⟩ := zchkn hf
              refine z_idiv dX12_saves_173 b42 ?_
              have e_ := Option.some.inj hf
              subst e_
              exact z_ireturn dX12_saves_174 rfl ⟨h, rfl, rfl, hE⟩
            · have hf := zif_f hf c41
              refine z_icmp_ne_f (tgt := 170) dX12_saves_151 (by decide) c41 ?_
              refine z_aload_n dX12_saves_154 rfl ?_
              refine z_getC dX12_saves_155 tF_12_49 hE dr_41 rfl rfl ?_
              refine z_iconst (v := 2) dX12_saves_158 (by decide) ?_
              refine z_iload_n dX12_saves_159 rfl ?_
              refine z_imul dX12_saves_160 ?_
              refine z_iconst (v := 1) dX12_saves_161 (by decide) ?_
              refine z_iadd dX12_saves_162 ?_
              obtain ⟨b43, hf⟩ := zchk hf
              refine z_ialoadL dX12_saves_163 hE dr_50 b43 rfl ?_
              refine z_iload dX12_saves_164 rfl ?_
              obtain ⟨b44, hf⟩ := zchkn hf
              refine z_idiv dX12_saves_166 b44 ?_
              refine z_goto (tgt := 174) dX12_saves_167 (by decide) ?_
              have e_ := Option.some.inj hf
              subst e_
              exact z_ireturn dX12_saves_174 rfl ⟨h, rfl, rfl, hE⟩
          · have hf := zif_f hf c36
            refine z_if_ne_f (tgt := 133) dX12_saves_128 (by decide) c36 ?_
            refine z_iconst (v := (-1)) dX12_saves_131 (by decide) ?_
            have e_ := Option.some.inj hf
            subst e_
            exact z_ireturn dX12_saves_132 rfl ⟨h, rfl, rfl, hE⟩
        · have hf := zif_f hf c35
          refine z_if_ne_f (tgt := 127) dX12_saves_122 (by decide) c35 ?_
          refine z_iload_n dX12_saves_125 rfl ?_
          have e_ := Option.some.inj hf
          subst e_
          exact z_ireturn dX12_saves_126 rfl ⟨h, rfl, rfl, hE⟩
      · have hf := zif_f hf c7
        refine z_if_ne_f (tgt := 31) dX12_saves_26 (by decide) c7 ?_
        refine z_iconst (v := (-1)) dX12_saves_29 (by decide) ?_
        have e_ := Option.some.inj hf
        subst e_
        exact z_ireturn dX12_saves_30 rfl ⟨h, rfl, rfl, hE⟩
end ZX
