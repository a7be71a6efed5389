section ZX
def f_X7_jarCell (o : Nat) (v1 : Int32) (v2 : Int32) (S : zS) : Option (Int32 × zS) :=
if ia_in ((v1 * 7) + v2) 66 = true then
some (S.1 (o + 1) ((v1 * 7) + v2).toNatClampNeg, S)
else none
theorem w_X7_jarCell {L : Nat} {xs : Nat → Int32} {fm : Value} {h0 : Nat → va_E} {t : Nat × Nat × Nat} (hn1 : 64 ≤ t.1) (hn2 : t.1 ≤ 1000000) (d : Nat) {o : Nat} (ho_o : zSc t.1 o) {h : Nat → va_E} {S : zS} (hE : zE (zDc t.1) h0 S (h, t)) {v1 : Int32} {v2 : Int32} {R : Int32 × zS} (hf : f_X7_jarCell o v1 v2 S = some R) : zC (ia_P0 L xs fm) (d + 1) 7007 [.ref o, .int v1, .int v2] (h, t) (zQi (zDc t.1) h0 t R) := by
  refine zC_of mt_7007 nn_7007 (Nat.le_of_ble_eq_true rfl) ?_
  refine zW_lv (lv' := [(0, .ref o), (1, .int v1), (2, .int v2)]) rfl ?_
  unfold f_X7_jarCell at hf
  refine z_aload_n dX7_jarCell_0 rfl ?_
  refine z_getC dX7_jarCell_1 tF_7_9 hE ho_o.1 rfl rfl ?_
  refine z_iload_n dX7_jarCell_4 rfl ?_
  refine z_bipush (v := 7) dX7_jarCell_5 (by decide) ?_
  refine z_imul dX7_jarCell_7 ?_
  refine z_iload_n dX7_jarCell_8 rfl ?_
  refine z_iadd dX7_jarCell_9 ?_
  obtain ⟨b1, hf⟩ := zchk hf
  refine z_ialoadL dX7_jarCell_10 hE ho_o.2.1 b1 rfl ?_
  have e_ := Option.some.inj hf
  subst e_
  exact z_ireturn dX7_jarCell_11 rfl ⟨h, rfl, rfl, hE⟩
def f_X7_hold (o : Nat) (v1 : Int32) (S : zS) : Option (Int32 × zS) :=
zb (f_X7_jarCell o v1 0 S) fun r2 S1 =>
zb (f_X7_jarCell o v1 1 S1) fun r5 S4 =>
zb (f_X7_jarCell o v1 2 S4) fun r8 S7 =>
some ((r2 + r5) + (2 * r8), S7)
theorem w_X7_hold {L : Nat} {xs : Nat → Int32} {fm : Value} {h0 : Nat → va_E} {t : Nat × Nat × Nat} (hn1 : 64 ≤ t.1) (hn2 : t.1 ≤ 1000000) (d : Nat) {o : Nat} (ho_o : zSc t.1 o) {h : Nat → va_E} {S : zS} (hE : zE (zDc t.1) h0 S (h, t)) {v1 : Int32} {R : Int32 × zS} (hf : f_X7_hold o v1 S = some R) : zC (ia_P0 L xs fm) (d + 2) 7009 [.ref o, .int v1] (h, t) (zQi (zDc t.1) h0 t R) := by
  refine zC_of mt_7009 nn_7009 (Nat.le_of_ble_eq_true rfl) ?_
  refine zW_lv (lv' := [(0, .ref o), (1, .int v1)]) rfl ?_
  unfold f_X7_hold at hf
  refine z_aload_n dX7_hold_0 rfl ?_
  refine z_iload_n dX7_hold_1 rfl ?_
  refine z_iconst (v := 0) dX7_hold_2 (by decide) ?_
  obtain ⟨r2, S1, k3, hf⟩ := zb_some hf
  refine z_callVi dX7_hold_3 tM_7_68 mt_7007 (Nat.le_of_ble_eq_true rfl) rfl rfl (z_recv hE ho_o.1 rfl) rfl (by have := ho_o.2.2; simp only [ia_oks, ia_okv, List.all_cons, List.all_nil, Bool.and_true, Bool.true_and, Bool.and_eq_true, Bool.or_eq_true, decide_eq_true_eq]; omega) (Nat.le_of_ble_eq_true rfl) (w_X7_jarCell hn1 hn2 (d + 0) ho_o hE k3) (fun h hE => ?_)
  refine z_aload_n dX7_hold_6 rfl ?_
  refine z_iload_n dX7_hold_7 rfl ?_
  refine z_iconst (v := 1) dX7_hold_8 (by decide) ?_
  obtain ⟨r5, S4, k6, hf⟩ := zb_some hf
  refine z_callVi dX7_hold_9 tM_7_68 mt_7007 (Nat.le_of_ble_eq_true rfl) rfl rfl (z_recv hE ho_o.1 rfl) rfl (by have := ho_o.2.2; simp only [ia_oks, ia_okv, List.all_cons, List.all_nil, Bool.and_true, Bool.true_and, Bool.and_eq_true, Bool.or_eq_true, decide_eq_true_eq]; omega) (Nat.le_of_ble_eq_true rfl) (w_X7_jarCell hn1 hn2 (d + 0) ho_o hE k6) (fun h hE => ?_)
  refine z_iadd dX7_hold_12 ?_
  refine z_iconst (v := 2) dX7_hold_13 (by decide) ?_
  refine z_aload_n dX7_hold_14 rfl ?_
  refine z_iload_n dX7_hold_15 rfl ?_
  refine z_iconst (v := 2) dX7_hold_16 (by decide) ?_
  obtain ⟨r8, S7, k9, hf⟩ := zb_some hf
  refine z_callVi dX7_hold_17 tM_7_68 mt_7007 (Nat.le_of_ble_eq_true rfl) rfl rfl (z_recv hE ho_o.1 rfl) rfl (by have := ho_o.2.2; simp only [ia_oks, ia_okv, List.all_cons, List.all_nil, Bool.and_true, Bool.true_and, Bool.and_eq_true, Bool.or_eq_true, decide_eq_true_eq]; omega) (Nat.le_of_ble_eq_true rfl) (w_X7_jarCell hn1 hn2 (d + 0) ho_o hE k9) (fun h hE => ?_)
  refine z_imul dX7_hold_20 ?_
  refine z_iadd dX7_hold_21 ?_
  have e_ := Option.some.inj hf
  subst e_
  exact z_ireturn dX7_hold_22 rfl ⟨h, rfl, rfl, hE⟩
def f_X7_isClosed (o : Nat) (v1 : Int32) (S : zS) : Option (Int32 × zS) :=
zb (f_X7_jarCell o v1 5 S) fun r2 S1 =>
if ¬ r2 = 0 then
some (0, S1)
else
zb (f_X7_jarCell o v1 6 S1) fun r6 S5 =>
if ¬ r6 = 0 then
some (0, S5)
else
some (1, S5)
theorem w_X7_isClosed {L : Nat} {xs : Nat → Int32} {fm : Value} {h0 : Nat → va_E} {t : Nat × Nat × Nat} (hn1 : 64 ≤ t.1) (hn2 : t.1 ≤ 1000000) (d : Nat) {o : Nat} (ho_o : zSc t.1 o) {h : Nat → va_E} {S : zS} (hE : zE (zDc t.1) h0 S (h, t)) {v1 : Int32} {R : Int32 × zS} (hf : f_X7_isClosed o v1 S = some R) : zC (ia_P0 L xs fm) (d + 2) 7008 [.ref o, .int v1] (h, t) (zQi (zDc t.1) h0 t R) := by
  refine zC_of mt_7008 nn_7008 (Nat.le_of_ble_eq_true rfl) ?_
  refine zW_lv (lv' := [(0, .ref o), (1, .int v1)]) rfl ?_
  unfold f_X7_isClosed at hf
  refine z_aload_n dX7_isClosed_0 rfl ?_
  refine z_iload_n dX7_isClosed_1 rfl ?_
  refine z_iconst (v := 5) dX7_isClosed_2 (by decide) ?_
  obtain ⟨r2, S1, k3, hf⟩ := zb_some hf
  refine z_callVi dX7_isClosed_3 tM_7_68 mt_7007 (Nat.le_of_ble_eq_true rfl) rfl rfl (z_recv hE ho_o.1 rfl) rfl (by have := ho_o.2.2; simp only [ia_oks, ia_okv, List.all_cons, List.all_nil, Bool.and_true, Bool.true_and, Bool.and_eq_true, Bool.or_eq_true, decide_eq_true_eq]; omega) (Nat.le_of_ble_eq_true rfl) (w_X7_jarCell hn1 hn2 (d + 0) ho_o hE k3) (fun h hE => ?_)
  by_cases c4 : ¬ r2 = 0
  · have hf := zif_t hf c4
    refine z_if_ne_t (tgt := 23) dX7_isClosed_6 (by decide) c4 ?_
    refine z_iconst (v := 0) dX7_isClosed_23 (by decide) ?_
    have e_ := Option.some.inj hf
    subst e_
    exact z_zreturn dX7_isClosed_24 rfl (by decide) ⟨h, rfl, rfl, hE⟩
  · have hf := zif_f hf c4
    refine z_if_ne_f (tgt := 23) dX7_isClosed_6 (by decide) c4 ?_
    refine z_aload_n dX7_isClosed_9 rfl ?_
    refine z_iload_n dX7_isClosed_10 rfl ?_
    refine z_bipush (v := 6) dX7_isClosed_11 (by decide) ?_
    obtain ⟨r6, S5, k7, hf⟩ := zb_some hf
    refine z_callVi dX7_isClosed_13 tM_7_68 mt_7007 (Nat.le_of_ble_eq_true rfl) rfl rfl (z_recv hE ho_o.1 rfl) rfl (by have := ho_o.2.2; simp only [ia_oks, ia_okv, List.all_cons, List.all_nil, Bool.and_true, Bool.true_and, Bool.and_eq_true, Bool.or_eq_true, decide_eq_true_eq]; omega) (Nat.le_of_ble_eq_true rfl) (w_X7_jarCell hn1 hn2 (d + 0) ho_o hE k7) (fun h hE => ?_)
    by_cases c8 : ¬ r6 = 0
    · have hf := zif_t hf c8
      refine z_if_ne_t (tgt := 23) dX7_isClosed_16 (by decide) c8 ?_
      refine z_iconst (v := 0) dX7_isClosed_23 (by decide) ?_
      have e_ := Option.some.inj hf
      subst e_
      exact z_zreturn dX7_isClosed_24 rfl (by decide) ⟨h, rfl, rfl, hE⟩
    · have hf := zif_f hf c8
      refine z_if_ne_f (tgt := 23) dX7_isClosed_16 (by decide) c8 ?_
      refine z_iconst (v := 1) dX7_isClosed_19 (by decide) ?_
      refine z_goto (tgt := 24) dX7_isClosed_20 (by decide) ?_
      have e_ := Option.some.inj hf
      subst e_
      exact z_zreturn dX7_isClosed_24 rfl (by decide) ⟨h, rfl, rfl, hE⟩
def f_X12_holdOf (w : Nat) (v1 : Int32) (S : zS) : Option (Int32 × zS) :=
if ia_in (7 * v1) 66 = true then
if ia_in ((7 * v1) + 1) 66 = true then
if ia_in ((7 * v1) + 2) 66 = true then
some (((S.1 w (7 * v1).toNatClampNeg) + (S.1 w ((7 * v1) + 1).toNatClampNeg)) + (2 * (S.1 w ((7 * v1) + 2).toNatClampNeg)), S)
else none
else none
else none
theorem w_X12_holdOf {L : Nat} {xs : Nat → Int32} {fm : Value} {h0 : Nat → va_E} {t : Nat × Nat × Nat} (hn1 : 64 ≤ t.1) (hn2 : t.1 ≤ 1000000) (d : Nat) {w : Nat} (ho_w : zRw w) {h : Nat → va_E} {S : zS} (hE : zE zDr h0 S (h, t)) {v1 : Int32} {R : Int32 × zS} (hf : f_X12_holdOf w v1 S = some R) : zC (ia_P0 L xs fm) (d + 1) 12041 [.ref w, .int v1] (h, t) (zQi zDr h0 t R) := by
  refine zC_of mt_12041 nn_12041 (Nat.le_of_ble_eq_true rfl) ?_
  refine zW_lv (lv' := [(0, .ref w), (1, .int v1)]) rfl ?_
  unfold f_X12_holdOf at hf
  refine z_aload_n dX12_holdOf_0 rfl ?_
  refine z_bipush (v := 7) dX12_holdOf_1 (by decide) ?_
  refine z_iload_n dX12_holdOf_3 rfl ?_
  refine z_imul dX12_holdOf_4 ?_
  obtain ⟨b1, hf⟩ := zchk hf
  refine z_ialoadL dX12_holdOf_5 hE ho_w.1 b1 rfl ?_
  refine z_aload_n dX12_holdOf_6 rfl ?_
  refine z_bipush (v := 7) dX12_holdOf_7 (by decide) ?_
  refine z_iload_n dX12_holdOf_9 rfl ?_
  refine z_imul dX12_holdOf_10 ?_
  refine z_iconst (v := 1) dX12_holdOf_11 (by decide) ?_
  refine z_iadd dX12_holdOf_12 ?_
  obtain ⟨b2, hf⟩ := zchk hf
  refine z_ialoadL dX12_holdOf_13 hE ho_w.1 b2 rfl ?_
  refine z_iadd dX12_holdOf_14 ?_
  refine z_iconst (v := 2) dX12_holdOf_15 (by decide) ?_
  refine z_aload_n dX12_holdOf_16 rfl ?_
  refine z_bipush (v := 7) dX12_holdOf_17 (by decide) ?_
  refine z_iload_n dX12_holdOf_19 rfl ?_
  refine z_imul dX12_holdOf_20 ?_
  refine z_iconst (v := 2) dX12_holdOf_21 (by decide) ?_
  refine z_iadd dX12_holdOf_22 ?_
  obtain ⟨b3, hf⟩ := zchk hf
  refine z_ialoadL dX12_holdOf_23 hE ho_w.1 b3 rfl ?_
  refine z_imul dX12_holdOf_24 ?_
  refine z_iadd dX12_holdOf_25 ?_
  have e_ := Option.some.inj hf
  subst e_
  exact z_ireturn dX12_holdOf_26 rfl ⟨h, rfl, rfl, hE⟩
def f_X12_isDone (w : Nat) (S : zS) : Option (Int32 × zS) :=
if ia_in ((7 * (S.1 w 64)) + 5) 66 = true then
zl (fun (u4 : Unit) =>
some (1, S)) fun J3 =>
if (S.1 w ((7 * (S.1 w 64)) + 5).toNatClampNeg) = 1 then
J3 ()
else
if ia_in ((7 * (S.1 w 64)) + 6) 66 = true then
if ¬ (S.1 w ((7 * (S.1 w 64)) + 6).toNatClampNeg) = 1 then
some (0, S)
else
J3 ()
else none
else none
theorem w_X12_isDone {L : Nat} {xs : Nat → Int32} {fm : Value} {h0 : Nat → va_E} {t : Nat × Nat × Nat} (hn1 : 64 ≤ t.1) (hn2 : t.1 ≤ 1000000) (d : Nat) {w : Nat} (ho_w : zRw w) {h : Nat → va_E} {S : zS} (hE : zE zDr h0 S (h, t)) {R : Int32 × zS} (hf : f_X12_isDone w S = some R) : zC (ia_P0 L xs fm) (d + 1) 12053 [.ref w] (h, t) (zQi zDr h0 t R) := by
  refine zC_of mt_12053 nn_12053 (Nat.le_of_ble_eq_true rfl) ?_
  refine zW_lv (lv' := [(0, .ref w)]) rfl ?_
  unfold f_X12_isDone at hf
  refine z_aload_n dX12_isDone_0 rfl ?_
  refine z_bipush (v := 7) dX12_isDone_1 (by decide) ?_
  refine z_aload_n dX12_isDone_3 rfl ?_
  refine z_bipush (v := 64) dX12_isDone_4 (by decide) ?_
  refine z_ialoadL (i := 64) dX12_isDone_6 hE ho_w.1 (by decide) (by decide) ?_
  refine z_imul dX12_isDone_7 ?_
  refine z_iconst (v := 5) dX12_isDone_8 (by decide) ?_
  refine z_iadd dX12_isDone_9 ?_
  obtain ⟨b1, hf⟩ := zchk hf
  refine z_ialoadL dX12_isDone_10 hE ho_w.1 b1 rfl ?_
  refine z_iconst (v := 1) dX12_isDone_11 (by decide) ?_
  obtain ⟨J3, eJ3, hf⟩ := zl_some hf
  have hJ3 : ∀ (u4 : Unit) (h : Nat → va_E), zE zDr h0 S (h, t) → J3 u4 = some R → zW (ia_P0 L xs fm) (d + 0) 12 false cX12_isDone 1 (some .boolean) 31 [(0, .ref w)] [] (h, t) (zQi zDr h0 t R) := by
    intro u4 h hE hf
    rw [eJ3] at hf
    refine z_iconst (v := 1) dX12_isDone_31 (by decide) ?_
    refine z_goto (tgt := 36) dX12_isDone_32 (by decide) ?_
    have e_ := Option.some.inj hf
    subst e_
    exact z_zreturn dX12_isDone_36 rfl (by decide) ⟨h, rfl, rfl, hE⟩
  by_cases c2 : (S.1 w ((7 * (S.1 w 64)) + 5).toNatClampNeg) = 1
  · have hf := zif_t hf c2
    refine z_icmp_eq_t (tgt := 31) dX12_isDone_12 (by decide) c2 ?_
    exact zW.sub (hJ3 () _ hE hf) [0] rfl rfl rfl rfl
  · have hf := zif_f hf c2
    refine z_icmp_eq_f (tgt := 31) dX12_isDone_12 (by decide) c2 ?_
    refine z_aload_n dX12_isDone_15 rfl ?_
    refine z_bipush (v := 7) dX12_isDone_16 (by decide) ?_
    refine z_aload_n dX12_isDone_18 rfl ?_
    refine z_bipush (v := 64) dX12_isDone_19 (by decide) ?_
    refine z_ialoadL (i := 64) dX12_isDone_21 hE ho_w.1 (by decide) (by decide) ?_
    refine z_imul dX12_isDone_22 ?_
    refine z_bipush (v := 6) dX12_isDone_23 (by decide) ?_
    refine z_iadd dX12_isDone_25 ?_
    obtain ⟨b5, hf⟩ := zchk hf
    refine z_ialoadL dX12_isDone_26 hE ho_w.1 b5 rfl ?_
    refine z_iconst (v := 1) dX12_isDone_27 (by decide) ?_
    by_cases c6 : ¬ (S.1 w ((7 * (S.1 w 64)) + 6).toNatClampNeg) = 1
    · have hf := zif_t hf c6
      refine z_icmp_ne_t (tgt := 35) dX12_isDone_28 (by decide) c6 ?_
      refine z_iconst (v := 0) dX12_isDone_35 (by decide) ?_
      have e_ := Option.some.inj hf
      subst e_
      exact z_zreturn dX12_isDone_36 rfl (by decide) ⟨h, rfl, rfl, hE⟩
    · have hf := zif_f hf c6
      refine z_icmp_ne_f (tgt := 35) dX12_isDone_28 (by decide) c6 ?_
      exact zW.sub (hJ3 () _ hE hf) [0] rfl rfl rfl rfl
def f_X7_lid (o : Nat) (v1 : Int32) (S : zS) : Option (Int32 × zS) :=
if ia_in (((S.1 (o + 1) 64) * 7) + v1) 66 = true then
some (S.1 (o + 1) (((S.1 (o + 1) 64) * 7) + v1).toNatClampNeg, S)
else none
theorem w_X7_lid {L : Nat} {xs : Nat → Int32} {fm : Value} {h0 : Nat → va_E} {t : Nat × Nat × Nat} (hn1 : 64 ≤ t.1) (hn2 : t.1 ≤ 1000000) (d : Nat) {o : Nat} (ho_o : zSc t.1 o) {h : Nat → va_E} {S : zS} (hE : zE (zDc t.1) h0 S (h, t)) {v1 : Int32} {R : Int32 × zS} (hf : f_X7_lid o v1 S = some R) : zC (ia_P0 L xs fm) (d + 1) 7013 [.ref o, .int v1] (h, t) (zQi (zDc t.1) h0 t R) := by
  refine zC_of mt_7013 nn_7013 (Nat.le_of_ble_eq_true rfl) ?_
  refine zW_lv (lv' := [(0, .ref o), (1, .int v1)]) rfl ?_
  unfold f_X7_lid at hf
  refine z_aload_n dX7_lid_0 rfl ?_
  refine z_getC dX7_lid_1 tF_7_9 hE ho_o.1 rfl rfl ?_
  refine z_aload_n dX7_lid_4 rfl ?_
  refine z_getC dX7_lid_5 tF_7_9 hE ho_o.1 rfl rfl ?_
  refine z_bipush (v := 64) dX7_lid_8 (by decide) ?_
  refine z_ialoadL (i := 64) dX7_lid_10 hE ho_o.2.1 (by decide) (by decide) ?_
  refine z_bipush (v := 7) dX7_lid_11 (by decide) ?_
  refine z_imul dX7_lid_13 ?_
  refine z_iload_n dX7_lid_14 rfl ?_
  refine z_iadd dX7_lid_15 ?_
  obtain ⟨b1, hf⟩ := zchk hf
  refine z_ialoadL dX7_lid_16 hE ho_o.2.1 b1 rfl ?_
  have e_ := Option.some.inj hf
  subst e_
  exact z_ireturn dX7_lid_17 rfl ⟨h, rfl, rfl, hE⟩
def f_X7_setLid (o : Nat) (v1 : Int32) (v2 : Int32) (S : zS) : Option (Unit × zS) :=
if ia_in (((S.1 (o + 1) 64) * 7) + v1) 66 = true then
zl (sV S (o + 1) ((((S.1 (o + 1) 64) * 7) + v1).toNatClampNeg) v2) fun S2 =>
some ((), S2)
else none
theorem w_X7_setLid {L : Nat} {xs : Nat → Int32} {fm : Value} {h0 : Nat → va_E} {t : Nat × Nat × Nat} (hn1 : 64 ≤ t.1) (hn2 : t.1 ≤ 1000000) (d : Nat) {o : Nat} (ho_o : zSc t.1 o) {h : Nat → va_E} {S : zS} (hE : zE (zDc t.1) h0 S (h, t)) {v1 : Int32} {v2 : Int32} {R : Unit × zS} (hf : f_X7_setLid o v1 v2 S = some R) : zC (ia_P0 L xs fm) (d + 1) 7012 [.ref o, .int v1, .int v2] (h, t) (zQv (zDc t.1) h0 t R) := by
  refine zC_of mt_7012 nn_7012 (Nat.le_of_ble_eq_true rfl) ?_
  refine zW_lv (lv' := [(0, .ref o), (1, .int v1), (2, .int v2)]) rfl ?_
  unfold f_X7_setLid at hf
  refine z_aload_n dX7_setLid_0 rfl ?_
  refine z_getC dX7_setLid_1 tF_7_9 hE ho_o.1 rfl rfl ?_
  refine z_aload_n dX7_setLid_4 rfl ?_
  refine z_getC dX7_setLid_5 tF_7_9 hE ho_o.1 rfl rfl ?_
  refine z_bipush (v := 64) dX7_setLid_8 (by decide) ?_
  refine z_ialoadL (i := 64) dX7_setLid_10 hE ho_o.2.1 (by decide) (by decide) ?_
  refine z_bipush (v := 7) dX7_setLid_11 (by decide) ?_
  refine z_imul dX7_setLid_13 ?_
  refine z_iload_n dX7_setLid_14 rfl ?_
  refine z_iadd dX7_setLid_15 ?_
  refine z_iload_n dX7_setLid_16 rfl ?_
  obtain ⟨b1, hf⟩ := zchk hf
  obtain ⟨S2, eS2, hf⟩ := zl_some hf
  refine z_iastoreL (i := (((S.1 (o + 1) 64) * 7) + v1).toNatClampNeg) dX7_setLid_17 hE ho_o.2.1 b1 rfl (fun h hE => ?_)
  rw [← eS2] at hE
  have e_ := Option.some.inj hf
  subst e_
  exact z_vreturn dX7_setLid_18 rfl ⟨h, rfl, rfl, hE⟩
def f_X10_cellOf (v0 : Int32) (v1 : Int32) (v2 : Int32) (S : zS) : Option (Int32 × zS) :=
if ia_in v0 3 = true then
if ia_in v0 3 = true then
some (((zc_1000003 v0.toNatClampNeg) + (v1 * (zc_1000002 v0.toNatClampNeg))) + v2, S)
else none
else none
theorem w_X10_cellOf {L : Nat} {xs : Nat → Int32} {fm : Value} {h0 : Nat → va_E} {t : Nat × Nat × Nat} (hn1 : 64 ≤ t.1) (hn2 : t.1 ≤ 1000000) (d : Nat) {h : Nat → va_E} {S : zS} (hE : zE (zDc t.1) h0 S (h, t)) {v0 : Int32} {v1 : Int32} {v2 : Int32} {R : Int32 × zS} (hf : f_X10_cellOf v0 v1 v2 S = some R) : zC (ia_P0 L xs fm) (d + 1) 10002 [.int v0, .int v1, .int v2] (h, t) (zQi (zDc t.1) h0 t R) := by
  refine zC_of mt_10002 nn_10002 (Nat.le_of_ble_eq_true rfl) ?_
  refine zW_lv (lv' := [(0, .int v0), (1, .int v1), (2, .int v2)]) rfl ?_
  unfold f_X10_cellOf at hf
  refine z_getstatic dX10_cellOf_0 tS_10_30 ?_
  refine z_iload_n dX10_cellOf_3 rfl ?_
  obtain ⟨b1, hf⟩ := zchk hf
  refine z_ialoadC dX10_cellOf_4 (by decide) hn2 hc_1000003 b1 ?_
  refine z_iload_n dX10_cellOf_5 rfl ?_
  refine z_getstatic dX10_cellOf_6 tS_10_33 ?_
  refine z_iload_n dX10_cellOf_9 rfl ?_
  obtain ⟨b2, hf⟩ := zchk hf
  refine z_ialoadC dX10_cellOf_10 (by decide) hn2 hc_1000002 b2 ?_
  refine z_imul dX10_cellOf_11 ?_
  refine z_iadd dX10_cellOf_12 ?_
  refine z_iload_n dX10_cellOf_13 rfl ?_
  refine z_iadd dX10_cellOf_14 ?_
  have e_ := Option.some.inj hf
  subst e_
  exact z_ireturn dX10_cellOf_15 rfl ⟨h, rfl, rfl, hE⟩
def f_X10_item (v1 : Int32) (v2 : Int32) (v3 : Int32) (S : zS) : Option (Int32 × zS) :=
zb (f_X10_cellOf v1 v2 v3 S) fun r2 S1 =>
if ia_in r2 62 = true then
some (S1.1 13 r2.toNatClampNeg, S1)
else none
theorem w_X10_item {L : Nat} {xs : Nat → Int32} {fm : Value} {h0 : Nat → va_E} {t : Nat × Nat × Nat} (hn1 : 64 ≤ t.1) (hn2 : t.1 ≤ 1000000) (d : Nat) {h : Nat → va_E} {S : zS} (hE : zE (zDc t.1) h0 S (h, t)) {v1 : Int32} {v2 : Int32} {v3 : Int32} {R : Int32 × zS} (hf : f_X10_item v1 v2 v3 S = some R) : zC (ia_P0 L xs fm) (d + 2) 10004 [.ref 11, .int v1, .int v2, .int v3] (h, t) (zQi (zDc t.1) h0 t R) := by
  refine zC_of mt_10004 nn_10004 (Nat.le_of_ble_eq_true rfl) ?_
  refine zW_lv (lv' := [(0, .ref 11), (1, .int v1), (2, .int v2), (3, .int v3)]) rfl ?_
  unfold f_X10_item at hf
  refine z_aload_n dX10_item_0 rfl ?_
  refine z_getC dX10_item_1 tF_10_15 hE dc_11 rfl rfl ?_
  refine z_iload_n dX10_item_4 rfl ?_
  refine z_iload_n dX10_item_5 rfl ?_
  refine z_iload_n dX10_item_6 rfl ?_
  obtain ⟨r2, S1, k3, hf⟩ := zb_some hf
  refine z_callSi dX10_item_7 tM_10_36 (by decide) mt_10002 (Nat.le_of_ble_eq_true rfl) rfl rfl (ia_oks_le hn1 rfl) (Nat.le_of_ble_eq_true rfl) (w_X10_cellOf hn1 hn2 (d + 0) hE k3) (fun h hE => ?_)
  obtain ⟨b4, hf⟩ := zchk hf
  refine z_ialoadL dX10_item_10 hE dc_13 b4 rfl ?_
  have e_ := Option.some.inj hf
  subst e_
  exact z_ireturn dX10_item_11 rfl ⟨h, rfl, rfl, hE⟩
end ZX
