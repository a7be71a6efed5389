section ZX
def f_X12_readKitchen_L30 (ex : Int32 → zS → Option (Unit × zS))  : Nat → Int32 → zS → Option (Unit × zS)
  | 0, _, _ => none
  | k + 1, x1, S =>
    if x1 = 0 then
    ex x1 S
    else
    if ¬ (S.1 41 11) = (-1) then
    ex x1 S
    else
    zb (f_X12_readClause S) fun _ S9 =>
    zl (fun (S14 : zS) =>
    f_X12_readKitchen_L30 ex k 0 S14) fun J13 =>
    if ¬ (S9.1 41 11) = (-1) then
    J13 S9
    else
    zb (f_X12_look S9) fun r16 S15 =>
    if ¬ r16 = 59 then
    J13 S15
    else
    zl (sV S15 41 10 ((S15.1 41 10) + 1)) fun S19 =>
    f_X12_readKitchen_L30 ex k 1 S19
def f_X12_readKitchen  (S : zS) : Option (Unit × zS) :=
zb (f_X12_starts 42 0 (S.1 41 6) S) fun _ S1 =>
zl (sV S1 41 27 0) fun S4 =>
zl (sV S4 41 28 0) fun S5 =>
zl (sV S5 41 29 0) fun S6 =>
f_X12_readKitchen_L30 (fun (q21 : Int32) (S20 : zS) =>
if ¬ (S20.1 41 11) = (-1) then
some ((), S20)
else
zb (f_X12_look S20) fun r24 S23 =>
zl (fun (u28 : Unit) =>
zb (f_X12_fails S23) fun r30 S29 =>
some ((), S29)) fun J27 =>
if ¬ r24 = (-1) then
J27 ()
else
if (S23.1 41 27) = 0 then
J27 ()
else
if ¬ (S23.1 41 28) = 0 then
some ((), S23)
else
J27 ())  zN 1 S6
theorem w_X12_readKitchen_L30 {L : Nat} {xs : Nat → Int32} {fm : Bool} {h0 : Nat → va_E} {t : Nat × Nat × Nat} (hn1 : 64 ≤ t.1) (hn2 : t.1 ≤ 1000000) (d : Nat) {ex : Int32 → zS → Option (Unit × zS)} {R : Unit × zS} (hex : ∀ (x1 : Int32) (S : zS) (h : Nat → va_E), zE zDr h0 S (h, t) → ex x1 S = some R → zW (ia_P0 L xs fm) ia_nx (d + 6) 12 false cX12_readKitchen 2 (none) 86 [(0, .ref 41), (1, .int x1)] [] (h, t) (zQv zDr h0 t R)) : ∀ (k : Nat) (x1 : Int32) (S : zS) (h : Nat → va_E), zE zDr h0 S (h, t) → f_X12_readKitchen_L30 ex  k x1 S = some R → zW (ia_P0 L xs fm) ia_nx (d + 6) 12 false cX12_readKitchen 2 (none) 30 [(0, .ref 41), (1, .int x1)] [] (h, t) (zQv zDr h0 t R) := by
  intro k
  induction k with
  | zero => intro x1 S h hE hf; cases hf
  | succ k ih =>
    intro x1 S h hE hf
    unfold f_X12_readKitchen_L30 at hf
    refine z_iload_n dX12_readKitchen_30 rfl ?_
    by_cases c7 : x1 = 0
    · have hf := zif_t hf c7
      refine z_if_eq_t (tgt := 86) dX12_readKitchen_31 (by decide) c7 ?_
      exact zW.sub (hex x1 S _ hE hf) [0, 1] rfl rfl rfl rfl
    · have hf := zif_f hf c7
      refine z_if_eq_f (tgt := 86) dX12_readKitchen_31 (by decide) c7 ?_
      refine z_aload_n dX12_readKitchen_34 rfl ?_
      refine z_getI dX12_readKitchen_35 tF_12_125 hE dr_41 rfl rfl ?_
      refine z_iconst (v := (-1)) dX12_readKitchen_38 (by decide) ?_
      by_cases c8 : ¬ (S.1 41 11) = (-1)
      · have hf := zif_t hf c8
        refine z_icmp_ne_t (tgt := 86) dX12_readKitchen_39 (by decide) c8 ?_
        exact zW.sub (hex x1 S _ hE hf) [0, 1] rfl rfl rfl rfl
      · have hf := zif_f hf c8
        refine z_icmp_ne_f (tgt := 86) dX12_readKitchen_39 (by decide) c8 ?_
        refine z_aload_n dX12_readKitchen_42 rfl ?_
        obtain ⟨r10, S9, k11, hf⟩ := zb_some hf
        refine z_callVv dX12_readKitchen_43 tM_12_255 mt_12010 (Nat.le_of_ble_eq_true rfl) rfl rfl (z_recv hE dr_41 rfl) rfl (ia_oks_le hn1 rfl) (Nat.le_of_ble_eq_true rfl) (w_X12_readClause hn1 hn2 (d + 0) hE k11) (fun h hE => ?_)
        refine z_aload_n dX12_readKitchen_46 rfl ?_
        refine z_getI dX12_readKitchen_47 tF_12_125 hE dr_41 rfl rfl ?_
        refine z_iconst (v := (-1)) dX12_readKitchen_50 (by decide) ?_
        obtain ⟨J13, eJ13, hf⟩ := zl_some hf
        have hJ13 : ∀ (S14 : zS) (h : Nat → va_E), zE zDr h0 S14 (h, t) → J13 S14 = some R → zW (ia_P0 L xs fm) ia_nx (d + 6) 12 false cX12_readKitchen 2 (none) 67 [(0, .ref 41), (1, .int x1)] [] (h, t) (zQv zDr h0 t R) := by
          intro S14 h hE hf
          rw [eJ13] at hf
          refine z_iconst (v := 0) dX12_readKitchen_67 (by decide) ?_
          refine z_istore_n (lv' := [(1, .int 0), (0, .ref 41)]) dX12_readKitchen_68 (by decide) rfl ?_
          refine z_iload_n dX12_readKitchen_69 rfl ?_
          refine z_if_eq_t (tgt := 30) dX12_readKitchen_70 (by decide) (by decide) ?_
          exact zW.sub (ih 0 S14 _ hE hf) [1, 0] rfl rfl rfl rfl
        by_cases c12 : ¬ (S9.1 41 11) = (-1)
        · have hf := zif_t hf c12
          refine z_icmp_ne_t (tgt := 67) dX12_readKitchen_51 (by decide) c12 ?_
          exact zW.sub (hJ13 S9 _ hE hf) [0, 1] rfl rfl rfl rfl
        · have hf := zif_f hf c12
          refine z_icmp_ne_f (tgt := 67) dX12_readKitchen_51 (by decide) c12 ?_
          refine z_aload_n dX12_readKitchen_54 rfl ?_
          obtain ⟨r16, S15, k17, hf⟩ := zb_some hf
          refine z_callVi dX12_readKitchen_55 tM_12_135 mt_12011 (Nat.le_of_ble_eq_true rfl) rfl rfl (z_recv hE dr_41 rfl) rfl (ia_oks_le hn1 rfl) (Nat.le_of_ble_eq_true rfl) (w_X12_look hn1 hn2 (d + 5) hE k17) (fun h hE => ?_)
          refine z_bipush (v := 59) dX12_readKitchen_58 (by decide) ?_
          by_cases c18 : ¬ r16 = 59
          · have hf := zif_t hf c18
            refine z_icmp_ne_t (tgt := 67) dX12_readKitchen_60 (by decide) c18 ?_
            exact zW.sub (hJ13 S15 _ hE hf) [0, 1] rfl rfl rfl rfl
          · have hf := zif_f hf c18
            refine z_icmp_ne_f (tgt := 67) dX12_readKitchen_60 (by decide) c18 ?_
            refine z_iconst (v := 1) dX12_readKitchen_63 (by decide) ?_
            refine z_goto (tgt := 68) dX12_readKitchen_64 (by decide) ?_
            refine z_istore_n (lv' := [(1, .int 1), (0, .ref 41)]) dX12_readKitchen_68 (by decide) rfl ?_
            refine z_iload_n dX12_readKitchen_69 rfl ?_
            refine z_if_eq_f (tgt := 30) dX12_readKitchen_70 (by decide) (by decide) ?_
            refine z_aload_n dX12_readKitchen_73 rfl ?_
            refine z_dup dX12_readKitchen_74 rfl ?_
            refine z_getI dX12_readKitchen_75 tF_12_116 hE dr_41 rfl rfl ?_
            refine z_iconst (v := 1) dX12_readKitchen_78 (by decide) ?_
            refine z_iadd dX12_readKitchen_79 ?_
            obtain ⟨S19, eS19, hf⟩ := zl_some hf
            refine z_putI dX12_readKitchen_80 tF_12_116 hE dr_41 rfl rfl rfl rfl (fun h hE => ?_)
            rw [← eS19] at hE
            refine z_goto (tgt := 30) dX12_readKitchen_83 (by decide) ?_
            exact zW.sub (ih 1 S19 _ hE hf) [1, 0] rfl rfl rfl rfl
theorem w_X12_readKitchen {L : Nat} {xs : Nat → Int32} {fm : Bool} {h0 : Nat → va_E} {t : Nat × Nat × Nat} (hn1 : 64 ≤ t.1) (hn2 : t.1 ≤ 1000000) (d : Nat) {h : Nat → va_E} {S : zS} (hE : zE zDr h0 S (h, t)) {R : Unit × zS} (hf : f_X12_readKitchen  S = some R) : zC (ia_P0 L xs fm) (d + 7) 12008 [.ref 41] (h, t) (zQv zDr h0 t R) := by
  refine zC_of mt_12008 nn_12008 (Nat.le_of_ble_eq_true rfl) ?_
  refine zW_lv (lv' := [(0, .ref 41)]) rfl ?_
  unfold f_X12_readKitchen at hf
  refine z_aload_n dX12_readKitchen_0 rfl ?_
  refine z_aload_n dX12_readKitchen_1 rfl ?_
  refine z_getC dX12_readKitchen_2 tF_12_9 hE dr_41 rfl rfl ?_
  refine z_iconst (v := 0) dX12_readKitchen_5 (by decide) ?_
  refine z_aload_n dX12_readKitchen_6 rfl ?_
  refine z_getI dX12_readKitchen_7 tF_12_106 hE dr_41 rfl rfl ?_
  obtain ⟨r2, S1, k3, hf⟩ := zb_some hf
  refine z_callVv dX12_readKitchen_10 tM_12_204 mt_12009 (Nat.le_of_ble_eq_true rfl) rfl rfl (z_recv hE dr_41 rfl) rfl (ia_oks_le hn1 rfl) (Nat.le_of_ble_eq_true rfl) (w_X12_starts hn1 hn2 (d + 5) (by decide) hE k3) (fun h hE => ?_)
  refine z_aload_n dX12_readKitchen_13 rfl ?_
  refine z_iconst (v := 0) dX12_readKitchen_14 (by decide) ?_
  obtain ⟨S4, eS4, hf⟩ := zl_some hf
  refine z_putI dX12_readKitchen_15 tF_12_218 hE dr_41 rfl rfl rfl rfl (fun h hE => ?_)
  rw [← eS4] at hE
  refine z_aload_n dX12_readKitchen_18 rfl ?_
  refine z_iconst (v := 0) dX12_readKitchen_19 (by decide) ?_
  obtain ⟨S5, eS5, hf⟩ := zl_some hf
  refine z_putI dX12_readKitchen_20 tF_12_221 hE dr_41 rfl rfl rfl rfl (fun h hE => ?_)
  rw [← eS5] at hE
  refine z_aload_n dX12_readKitchen_23 rfl ?_
  refine z_iconst (v := 0) dX12_readKitchen_24 (by decide) ?_
  obtain ⟨S6, eS6, hf⟩ := zl_some hf
  refine z_putI dX12_readKitchen_25 tF_12_224 hE dr_41 rfl rfl rfl rfl (fun h hE => ?_)
  rw [← eS6] at hE
  refine z_iconst (v := 1) dX12_readKitchen_28 (by decide) ?_
  refine z_istore_n (lv' := [(1, .int 1), (0, .ref 41)]) dX12_readKitchen_29 (by decide) rfl ?_
  refine zW.sub (w_X12_readKitchen_L30 hn1 hn2 d (fun q21 S20 h hE hf => ?_) zN 1 S6 h hE hf) [1, 0] rfl rfl rfl rfl
  try dsimp only at hf
  refine z_aload_n dX12_readKitchen_86 rfl ?_
  refine z_getI dX12_readKitchen_87 tF_12_125 hE dr_41 rfl rfl ?_
  refine z_iconst (v := (-1)) dX12_readKitchen_90 (by decide) ?_
  by_cases c22 : ¬ (S20.1 41 11) = (-1)
  · have hf := zif_t hf c22
    refine z_icmp_ne_t (tgt := 121) dX12_readKitchen_91 (by decide) c22 ?_
    have e_ := Option.some.inj hf
    subst e_
    exact z_vreturn dX12_readKitchen_121 rfl ⟨h, rfl, rfl, hE⟩
  · have hf := zif_f hf c22
    refine z_icmp_ne_f (tgt := 121) dX12_readKitchen_91 (by decide) c22 ?_
    refine z_aload_n dX12_readKitchen_94 rfl ?_
    obtain ⟨r24, S23, k25, hf⟩ := zb_some hf
    refine z_callVi dX12_readKitchen_95 tM_12_135 mt_12011 (Nat.le_of_ble_eq_true rfl) rfl rfl (z_recv hE dr_41 rfl) rfl (ia_oks_le hn1 rfl) (Nat.le_of_ble_eq_true rfl) (w_X12_look hn1 hn2 (d + 5) hE k25) (fun h hE => ?_)
    refine z_iconst (v := (-1)) dX12_readKitchen_98 (by decide) ?_
    obtain ⟨J27, eJ27, hf⟩ := zl_some hf
    have hJ27 : ∀ (u28 : Unit) (h : Nat → va_E), zE zDr h0 S23 (h, t) → J27 u28 = some R → zW (ia_P0 L xs fm) ia_nx (d + 6) 12 false cX12_readKitchen 2 (none) 116 [(0, .ref 41), (1, .int q21)] [] (h, t) (zQv zDr h0 t R) := by
      intro u28 h hE hf
      rw [eJ27] at hf
      refine z_aload_n dX12_readKitchen_116 rfl ?_
      obtain ⟨r30, S29, k31, hf⟩ := zb_some hf
      refine z_callVi dX12_readKitchen_117 tM_12_131 mt_12012 (Nat.le_of_ble_eq_true rfl) rfl rfl (z_recv hE dr_41 rfl) rfl (ia_oks_le hn1 rfl) (Nat.le_of_ble_eq_true rfl) (w_X12_fails hn1 hn2 (d + 5) hE k31) (fun h hE => ?_)
      refine z_pop dX12_readKitchen_120 rfl ?_
      have e_ := Option.some.inj hf
      subst e_
      exact z_vreturn dX12_readKitchen_121 rfl ⟨h, rfl, rfl, hE⟩
    by_cases c26 : ¬ r24 = (-1)
    · have hf := zif_t hf c26
      refine z_icmp_ne_t (tgt := 116) dX12_readKitchen_99 (by decide) c26 ?_
      exact zW.sub (hJ27 () _ hE hf) [0, 1] rfl rfl rfl rfl
    · have hf := zif_f hf c26
      refine z_icmp_ne_f (tgt := 116) dX12_readKitchen_99 (by decide) c26 ?_
      refine z_aload_n dX12_readKitchen_102 rfl ?_
      refine z_getI dX12_readKitchen_103 tF_12_218 hE dr_41 rfl rfl ?_
      by_cases c32 : (S23.1 41 27) = 0
      · have hf := zif_t hf c32
        refine z_if_eq_t (tgt := 116) dX12_readKitchen_106 (by decide) c32 ?_
        exact zW.sub (hJ27 () _ hE hf) [0, 1] rfl rfl rfl rfl
      · have hf := zif_f hf c32
        refine z_if_eq_f (tgt := 116) dX12_readKitchen_106 (by decide) c32 ?_
        refine z_aload_n dX12_readKitchen_109 rfl ?_
        refine z_getI dX12_readKitchen_110 tF_12_221 hE dr_41 rfl rfl ?_
        by_cases c33 : ¬ (S23.1 41 28) = 0
        · have hf := zif_t hf c33
          refine z_if_ne_t (tgt := 121) dX12_readKitchen_113 (by decide) c33 ?_
          have e_ := Option.some.inj hf
          subst e_
          exact z_vreturn dX12_readKitchen_121 rfl ⟨h, rfl, rfl, hE⟩
        · have hf := zif_f hf c33
          refine z_if_ne_f (tgt := 121) dX12_readKitchen_113 (by decide) c33 ?_
          exact zW.sub (hJ27 () _ hE hf) [0, 1] rfl rfl rfl rfl
def f_X12_isAmong_1000106_L2 (ex : Int32 → zS → Option (Int32 × zS)) (i1 : Int32) : Nat → Int32 → zS → Option (Int32 × zS)
  | 0, _, _ => none
  | k + 1, x2, S =>
    zb (f_J0_length_8abf5_1000106 S) fun r2 S1 =>
    if r2 ≤ x2 then
    ex x2 S1
    else
    zb (f_J0_charAt_5068e_1000106 x2 S1) fun r6 S5 =>
    if ¬ r6 = i1 then
    zl (x2 + 1) fun (y9 : Int32) =>
    f_X12_isAmong_1000106_L2 ex i1 k y9 S5
    else
    some (1, S5)
def f_X12_isAmong_1000106 (v1 : Int32) (S : zS) : Option (Int32 × zS) :=
f_X12_isAmong_1000106_L2 (fun (q11 : Int32) (S10 : zS) =>
some (0, S10)) v1 zN 0 S
theorem w_X12_isAmong_1000106_L2 {L : Nat} {xs : Nat → Int32} {fm : Bool} {h0 : Nat → va_E} {t : Nat × Nat × Nat} (hn1 : 64 ≤ t.1) (hn2 : t.1 ≤ 1000000) (d : Nat) {ex : Int32 → zS → Option (Int32 × zS)} {i1 : Int32} {R : Int32 × zS} (hex : ∀ (x2 : Int32) (S : zS) (h : Nat → va_E), zE zDr h0 S (h, t) → ex x2 S = some R → zW (ia_P0 L xs fm) ia_nx (d + 4) 12 false cX12_isAmong 3 (some .boolean) 27 [(0, .ref 1000106), (1, .int i1), (2, .int x2)] [] (h, t) (zQi zDr h0 t R)) : ∀ (k : Nat) (x2 : Int32) (S : zS) (h : Nat → va_E), zE zDr h0 S (h, t) → f_X12_isAmong_1000106_L2 ex i1 k x2 S = some R → zW (ia_P0 L xs fm) ia_nx (d + 4) 12 false cX12_isAmong 3 (some .boolean) 2 [(0, .ref 1000106), (1, .int i1), (2, .int x2)] [] (h, t) (zQi zDr h0 t R) := by
  intro k
  induction k with
  | zero => intro x2 S h hE hf; cases hf
  | succ k ih =>
    intro x2 S h hE hf
    unfold f_X12_isAmong_1000106_L2 at hf
    refine z_iload_n dX12_isAmong_2 rfl ?_
    refine z_aload_n dX12_isAmong_3 rfl ?_
    obtain ⟨r2, S1, k3, hf⟩ := zb_some hf
    refine z_callVi dX12_isAmong_4 tM_12_96 mt_900003 (Nat.le_of_ble_eq_true rfl) rfl rfl (z_recvC (hp := (h, t)) (by decide) hn2 hc_1000106) rfl (ia_oks_le hn1 rfl) (Nat.le_of_ble_eq_true rfl) (w_J0_length_8abf5_1000106 hn1 hn2 (d + 2) hE k3) (fun h hE => ?_)
    by_cases c4 : r2 ≤ x2
    · have hf := zif_t hf c4
      refine z_icmp_ge_t (tgt := 27) dX12_isAmong_7 (by decide) c4 ?_
      exact zW.sub (hex x2 S1 _ hE hf) [0, 1, 2] rfl rfl rfl rfl
    · have hf := zif_f hf c4
      refine z_icmp_ge_f (tgt := 27) dX12_isAmong_7 (by decide) c4 ?_
      refine z_aload_n dX12_isAmong_10 rfl ?_
      refine z_iload_n dX12_isAmong_11 rfl ?_
      obtain ⟨r6, S5, k7, hf⟩ := zb_some hf
      refine z_callVi dX12_isAmong_12 tM_12_102 mt_900006 (Nat.le_of_ble_eq_true rfl) rfl rfl (z_recvC (hp := (h, t)) (by decide) hn2 hc_1000106) rfl (ia_oks_le hn1 rfl) (Nat.le_of_ble_eq_true rfl) (w_J0_charAt_5068e_1000106 hn1 hn2 (d + 0) hE k7) (fun h hE => ?_)
      refine z_iload_n dX12_isAmong_15 rfl ?_
      by_cases c8 : ¬ r6 = i1
      · have hf := zif_t hf c8
        refine z_icmp_ne_t (tgt := 21) dX12_isAmong_16 (by decide) c8 ?_
        obtain ⟨y9, ey9, hf⟩ := zl_some hf
        refine z_iincY (v := 1) (y := y9) (lv' := [(2, .int y9), (0, .ref 1000106), (1, .int i1)]) dX12_isAmong_21 rfl (by decide) (by decide) ey9 rfl ?_
        refine z_goto (tgt := 2) dX12_isAmong_24 (by decide) ?_
        exact zW.sub (ih y9 S5 _ hE hf) [1, 2, 0] rfl rfl rfl rfl
      · have hf := zif_f hf c8
        refine z_icmp_ne_f (tgt := 21) dX12_isAmong_16 (by decide) c8 ?_
        refine z_iconst (v := 1) dX12_isAmong_19 (by decide) ?_
        have e_ := Option.some.inj hf
        subst e_
        exact z_zreturn dX12_isAmong_20 rfl (by decide) ⟨h, rfl, rfl, hE⟩
theorem w_X12_isAmong_1000106 {L : Nat} {xs : Nat → Int32} {fm : Bool} {h0 : Nat → va_E} {t : Nat × Nat × Nat} (hn1 : 64 ≤ t.1) (hn2 : t.1 ≤ 1000000) (d : Nat) {h : Nat → va_E} {S : zS} (hE : zE zDr h0 S (h, t)) {v1 : Int32} {R : Int32 × zS} (hf : f_X12_isAmong_1000106 v1 S = some R) : zC (ia_P0 L xs fm) (d + 5) 12023 [.ref 1000106, .int v1] (h, t) (zQi zDr h0 t R) := by
  refine zC_of mt_12023 nn_12023 (Nat.le_of_ble_eq_true rfl) ?_
  refine zW_lv (lv' := [(0, .ref 1000106), (1, .int v1)]) rfl ?_
  unfold f_X12_isAmong_1000106 at hf
  refine z_iconst (v := 0) dX12_isAmong_0 (by decide) ?_
  refine z_istore_n (lv' := [(2, .int 0), (0, .ref 1000106), (1, .int v1)]) dX12_isAmong_1 (by decide) rfl ?_
  refine zW.sub (w_X12_isAmong_1000106_L2 hn1 hn2 d (fun q11 S10 h hE hf => ?_) zN 0 S h hE hf) [1, 2, 0] rfl rfl rfl rfl
  try dsimp only at hf
  refine z_iconst (v := 0) dX12_isAmong_27 (by decide) ?_
  have e_ := Option.some.inj hf
  subst e_
  exact z_zreturn dX12_isAmong_28 rfl (by decide) ⟨h, rfl, rfl, hE⟩
def f_X12_takes (v1 : Int32) (S : zS) : Option (Int32 × zS) :=
zl (fun (S3 : zS) =>
zb (f_X12_fails S3) fun r5 S4 =>
if r5 = 0 ∨ r5 = 1 then some (r5, S4) else none) fun J2 =>
if ¬ (S.1 41 11) = (-1) then
J2 S
else
zb (f_X12_look S) fun r9 S8 =>
if r9 = v1 then
zl (sV S8 41 10 ((S8.1 41 10) + 1)) fun S12 =>
some (1, S12)
else
J2 S8
theorem w_X12_takes {L : Nat} {xs : Nat → Int32} {fm : Bool} {h0 : Nat → va_E} {t : Nat × Nat × Nat} (hn1 : 64 ≤ t.1) (hn2 : t.1 ≤ 1000000) (d : Nat) {h : Nat → va_E} {S : zS} (hE : zE zDr h0 S (h, t)) {v1 : Int32} {R : Int32 × zS} (hf : f_X12_takes v1 S = some R) : zC (ia_P0 L xs fm) (d + 2) 12024 [.ref 41, .int v1] (h, t) (zQi zDr h0 t R) := by
  refine zC_of mt_12024 nn_12024 (Nat.le_of_ble_eq_true rfl) ?_
  refine zW_lv (lv' := [(0, .ref 41), (1, .int v1)]) rfl ?_
  unfold f_X12_takes at hf
  refine z_aload_n dX12_takes_0 rfl ?_
  refine z_getI dX12_takes_1 tF_12_125 hE dr_41 rfl rfl ?_
  refine z_iconst (v := (-1)) dX12_takes_4 (by decide) ?_
  obtain ⟨J2, eJ2, hf⟩ := zl_some hf
  have hJ2 : ∀ (S3 : zS) (h : Nat → va_E), zE zDr h0 S3 (h, t) → J2 S3 = some R → zW (ia_P0 L xs fm) ia_nx (d + 1) 12 false cX12_takes 2 (some .boolean) 16 [(0, .ref 41), (1, .int v1)] [] (h, t) (zQi zDr h0 t R) := by
    intro S3 h hE hf
    rw [eJ2] at hf
    refine z_aload_n dX12_takes_16 rfl ?_
    obtain ⟨r5, S4, k6, hf⟩ := zb_some hf
    refine z_callVi dX12_takes_17 tM_12_131 mt_12012 (Nat.le_of_ble_eq_true rfl) rfl rfl (z_recv hE dr_41 rfl) rfl (ia_oks_le hn1 rfl) (Nat.le_of_ble_eq_true rfl) (w_X12_fails hn1 hn2 (d + 0) hE k6) (fun h hE => ?_)
    obtain ⟨b7, hf⟩ := zchk hf
    have e_ := Option.some.inj hf
    subst e_
    exact z_zreturn dX12_takes_20 rfl b7 ⟨h, rfl, rfl, hE⟩
  by_cases c1 : ¬ (S.1 41 11) = (-1)
  · have hf := zif_t hf c1
    refine z_icmp_ne_t (tgt := 16) dX12_takes_5 (by decide) c1 ?_
    exact zW.sub (hJ2 S _ hE hf) [0, 1] rfl rfl rfl rfl
  · have hf := zif_f hf c1
    refine z_icmp_ne_f (tgt := 16) dX12_takes_5 (by decide) c1 ?_
    refine z_aload_n dX12_takes_8 rfl ?_
    obtain ⟨r9, S8, k10, hf⟩ := zb_some hf
    refine z_callVi dX12_takes_9 tM_12_135 mt_12011 (Nat.le_of_ble_eq_true rfl) rfl rfl (z_recv hE dr_41 rfl) rfl (ia_oks_le hn1 rfl) (Nat.le_of_ble_eq_true rfl) (w_X12_look hn1 hn2 (d + 0) hE k10) (fun h hE => ?_)
    refine z_iload_n dX12_takes_12 rfl ?_
    by_cases c11 : r9 = v1
    · have hf := zif_t hf c11
      refine z_icmp_eq_t (tgt := 21) dX12_takes_13 (by decide) c11 ?_
      refine z_aload_n dX12_takes_21 rfl ?_
      refine z_dup dX12_takes_22 rfl ?_
      refine z_getI dX12_takes_23 tF_12_116 hE dr_41 rfl rfl ?_
      refine z_iconst (v := 1) dX12_takes_26 (by decide) ?_
      refine z_iadd dX12_takes_27 ?_
      obtain ⟨S12, eS12, hf⟩ := zl_some hf
      refine z_putI dX12_takes_28 tF_12_116 hE dr_41 rfl rfl rfl rfl (fun h hE => ?_)
      rw [← eS12] at hE
      refine z_iconst (v := 1) dX12_takes_31 (by decide) ?_
      have e_ := Option.some.inj hf
      subst e_
      exact z_zreturn dX12_takes_32 rfl (by decide) ⟨h, rfl, rfl, hE⟩
    · have hf := zif_f hf c11
      refine z_icmp_eq_f (tgt := 21) dX12_takes_13 (by decide) c11 ?_
      exact zW.sub (hJ2 S8 _ hE hf) [0, 1] rfl rfl rfl rfl
def f_X12_isAmong_1000104_L2 (ex : Int32 → zS → Option (Int32 × zS)) (i1 : Int32) : Nat → Int32 → zS → Option (Int32 × zS)
  | 0, _, _ => none
  | k + 1, x2, S =>
    zb (f_J0_length_8abf5_1000104 S) fun r2 S1 =>
    if r2 ≤ x2 then
    ex x2 S1
    else
    zb (f_J0_charAt_5068e_1000104 x2 S1) fun r6 S5 =>
    if ¬ r6 = i1 then
    zl (x2 + 1) fun (y9 : Int32) =>
    f_X12_isAmong_1000104_L2 ex i1 k y9 S5
    else
    some (1, S5)
def f_X12_isAmong_1000104 (v1 : Int32) (S : zS) : Option (Int32 × zS) :=
f_X12_isAmong_1000104_L2 (fun (q11 : Int32) (S10 : zS) =>
some (0, S10)) v1 zN 0 S
theorem w_X12_isAmong_1000104_L2 {L : Nat} {xs : Nat → Int32} {fm : Bool} {h0 : Nat → va_E} {t : Nat × Nat × Nat} (hn1 : 64 ≤ t.1) (hn2 : t.1 ≤ 1000000) (d : Nat) {ex : Int32 → zS → Option (Int32 × zS)} {i1 : Int32} {R : Int32 × zS} (hex : ∀ (x2 : Int32) (S : zS) (h : Nat → va_E), zE zDr h0 S (h, t) → ex x2 S = some R → zW (ia_P0 L xs fm) ia_nx (d + 4) 12 false cX12_isAmong 3 (some .boolean) 27 [(0, .ref 1000104), (1, .int i1), (2, .int x2)] [] (h, t) (zQi zDr h0 t R)) : ∀ (k : Nat) (x2 : Int32) (S : zS) (h : Nat → va_E), zE zDr h0 S (h, t) → f_X12_isAmong_1000104_L2 ex i1 k x2 S = some R → zW (ia_P0 L xs fm) ia_nx (d + 4) 12 false cX12_isAmong 3 (some .boolean) 2 [(0, .ref 1000104), (1, .int i1), (2, .int x2)] [] (h, t) (zQi zDr h0 t R) := by
  intro k
  induction k with
  | zero => intro x2 S h hE hf; cases hf
  | succ k ih =>
    intro x2 S h hE hf
    unfold f_X12_isAmong_1000104_L2 at hf
    refine z_iload_n dX12_isAmong_2 rfl ?_
    refine z_aload_n dX12_isAmong_3 rfl ?_
    obtain ⟨r2, S1, k3, hf⟩ := zb_some hf
    refine z_callVi dX12_isAmong_4 tM_12_96 mt_900003 (Nat.le_of_ble_eq_true rfl) rfl rfl (z_recvC (hp := (h, t)) (by decide) hn2 hc_1000104) rfl (ia_oks_le hn1 rfl) (Nat.le_of_ble_eq_true rfl) (w_J0_length_8abf5_1000104 hn1 hn2 (d + 2) hE k3) (fun h hE => ?_)
    by_cases c4 : r2 ≤ x2
    · have hf := zif_t hf c4
      refine z_icmp_ge_t (tgt := 27) dX12_isAmong_7 (by decide) c4 ?_
      exact zW.sub (hex x2 S1 _ hE hf) [0, 1, 2] rfl rfl rfl rfl
    · have hf := zif_f hf c4
      refine z_icmp_ge_f (tgt := 27) dX12_isAmong_7 (by decide) c4 ?_
      refine z_aload_n dX12_isAmong_10 rfl ?_
      refine z_iload_n dX12_isAmong_11 rfl ?_
      obtain ⟨r6, S5, k7, hf⟩ := zb_some hf
      refine z_callVi dX12_isAmong_12 tM_12_102 mt_900006 (Nat.le_of_ble_eq_true rfl) rfl rfl (z_recvC (hp := (h, t)) (by decide) hn2 hc_1000104) rfl (ia_oks_le hn1 rfl) (Nat.le_of_ble_eq_true rfl) (w_J0_charAt_5068e_1000104 hn1 hn2 (d + 0) hE k7) (fun h hE => ?_)
      refine z_iload_n dX12_isAmong_15 rfl ?_
      by_cases c8 : ¬ r6 = i1
      · have hf := zif_t hf c8
        refine z_icmp_ne_t (tgt := 21) dX12_isAmong_16 (by decide) c8 ?_
        obtain ⟨y9, ey9, hf⟩ := zl_some hf
        refine z_iincY (v := 1) (y := y9) (lv' := [(2, .int y9), (0, .ref 1000104), (1, .int i1)]) dX12_isAmong_21 rfl (by decide) (by decide) ey9 rfl ?_
        refine z_goto (tgt := 2) dX12_isAmong_24 (by decide) ?_
        exact zW.sub (ih y9 S5 _ hE hf) [1, 2, 0] rfl rfl rfl rfl
      · have hf := zif_f hf c8
        refine z_icmp_ne_f (tgt := 21) dX12_isAmong_16 (by decide) c8 ?_
        refine z_iconst (v := 1) dX12_isAmong_19 (by decide) ?_
        have e_ := Option.some.inj hf
        subst e_
        exact z_zreturn dX12_isAmong_20 rfl (by decide) ⟨h, rfl, rfl, hE⟩
theorem w_X12_isAmong_1000104 {L : Nat} {xs : Nat → Int32} {fm : Bool} {h0 : Nat → va_E} {t : Nat × Nat × Nat} (hn1 : 64 ≤ t.1) (hn2 : t.1 ≤ 1000000) (d : Nat) {h : Nat → va_E} {S : zS} (hE : zE zDr h0 S (h, t)) {v1 : Int32} {R : Int32 × zS} (hf : f_X12_isAmong_1000104 v1 S = some R) : zC (ia_P0 L xs fm) (d + 5) 12023 [.ref 1000104, .int v1] (h, t) (zQi zDr h0 t R) := by
  refine zC_of mt_12023 nn_12023 (Nat.le_of_ble_eq_true rfl) ?_
  refine zW_lv (lv' := [(0, .ref 1000104), (1, .int v1)]) rfl ?_
  unfold f_X12_isAmong_1000104 at hf
  refine z_iconst (v := 0) dX12_isAmong_0 (by decide) ?_
  refine z_istore_n (lv' := [(2, .int 0), (0, .ref 1000104), (1, .int v1)]) dX12_isAmong_1 (by decide) rfl ?_
  refine zW.sub (w_X12_isAmong_1000104_L2 hn1 hn2 d (fun q11 S10 h hE hf => ?_) zN 0 S h hE hf) [1, 2, 0] rfl rfl rfl rfl
  try dsimp only at hf
  refine z_iconst (v := 0) dX12_isAmong_27 (by decide) ?_
  have e_ := Option.some.inj hf
  subst e_
  exact z_zreturn dX12_isAmong_28 rfl (by decide) ⟨h, rfl, rfl, hE⟩
def f_X12_goesIn  (S : zS) : Option (Int32 × zS) :=
if ¬ (S.1 41 12) = 6 then
zl (sV S 41 12 ((S.1 41 12) + 1)) fun S2 =>
zl (sV S2 41 10 ((S2.1 41 10) + 1)) fun S3 =>
some (1, S3)
else
zb (f_X12_fails S) fun r5 S4 =>
if r5 = 0 ∨ r5 = 1 then some (r5, S4) else none
theorem w_X12_goesIn {L : Nat} {xs : Nat → Int32} {fm : Bool} {h0 : Nat → va_E} {t : Nat × Nat × Nat} (hn1 : 64 ≤ t.1) (hn2 : t.1 ≤ 1000000) (d : Nat) {h : Nat → va_E} {S : zS} (hE : zE zDr h0 S (h, t)) {R : Int32 × zS} (hf : f_X12_goesIn  S = some R) : zC (ia_P0 L xs fm) (d + 2) 12031 [.ref 41] (h, t) (zQi zDr h0 t R) := by
  refine zC_of mt_12031 nn_12031 (Nat.le_of_ble_eq_true rfl) ?_
  refine zW_lv (lv' := [(0, .ref 41)]) rfl ?_
  unfold f_X12_goesIn at hf
  refine z_aload_n dX12_goesIn_0 rfl ?_
  refine z_getI dX12_goesIn_1 tF_12_128 hE dr_41 rfl rfl ?_
  refine z_bipush (v := 6) dX12_goesIn_4 (by decide) ?_
  by_cases c1 : ¬ (S.1 41 12) = 6
  · have hf := zif_t hf c1
    refine z_icmp_ne_t (tgt := 14) dX12_goesIn_6 (by decide) c1 ?_
    refine z_aload_n dX12_goesIn_14 rfl ?_
    refine z_dup dX12_goesIn_15 rfl ?_
    refine z_getI dX12_goesIn_16 tF_12_128 hE dr_41 rfl rfl ?_
    refine z_iconst (v := 1) dX12_goesIn_19 (by decide) ?_
    refine z_iadd dX12_goesIn_20 ?_
    obtain ⟨S2, eS2, hf⟩ := zl_some hf
    refine z_putI dX12_goesIn_21 tF_12_128 hE dr_41 rfl rfl rfl rfl (fun h hE => ?_)
    rw [← eS2] at hE
    refine z_aload_n dX12_goesIn_24 rfl ?_
    refine z_dup dX12_goesIn_25 rfl ?_
    refine z_getI dX12_goesIn_26 tF_12_116 hE dr_41 rfl rfl ?_
    refine z_iconst (v := 1) dX12_goesIn_29 (by decide) ?_
    refine z_iadd dX12_goesIn_30 ?_
    obtain ⟨S3, eS3, hf⟩ := zl_some hf
    refine z_putI dX12_goesIn_31 tF_12_116 hE dr_41 rfl rfl rfl rfl (fun h hE => ?_)
    rw [← eS3] at hE
    refine z_iconst (v := 1) dX12_goesIn_34 (by decide) ?_
    have e_ := Option.some.inj hf
    subst e_
    exact z_zreturn dX12_goesIn_35 rfl (by decide) ⟨h, rfl, rfl, hE⟩
  · have hf := zif_f hf c1
    refine z_icmp_ne_f (tgt := 14) dX12_goesIn_6 (by decide) c1 ?_
    refine z_aload_n dX12_goesIn_9 rfl ?_
    obtain ⟨r5, S4, k6, hf⟩ := zb_some hf
    refine z_callVi dX12_goesIn_10 tM_12_131 mt_12012 (Nat.le_of_ble_eq_true rfl) rfl rfl (z_recv hE dr_41 rfl) rfl (ia_oks_le hn1 rfl) (Nat.le_of_ble_eq_true rfl) (w_X12_fails hn1 hn2 (d + 0) hE k6) (fun h hE => ?_)
    obtain ⟨b7, hf⟩ := zchk hf
    have e_ := Option.some.inj hf
    subst e_
    exact z_zreturn dX12_goesIn_13 rfl b7 ⟨h, rfl, rfl, hE⟩
def f_X12_atom_o_L90 (hub : zS → Option (Int32 × zS)) (ex : Int32 → Int32 → zS → Option (Int32 × zS)) (i1 : Int32) : Nat → Int32 → Int32 → zS → Option (Int32 × zS)
  | 0, _, _, _ => none
  | k + 1, x2, x3, S =>
    zb (f_X12_isDigit S) fun r16 S15 =>
    if r16 = 0 then
    ex x2 x3 S15
    else
    if ¬ (S15.1 41 11) = (-1) then
    ex x2 x3 S15
    else
    if ¬ x3 = 4 then
    zkr (S15.2.1 41 5) none fun a21 =>
    if a21 = 42 then
    if ia_in ((S15.1 41 8) + (S15.1 41 10)) 200 = true then
    zl (((10 * x2) + (S15.1 42 ((S15.1 41 8) + (S15.1 41 10)).toNatClampNeg)) - 48) fun (y23 : Int32) =>
    zl (sV S15 41 10 ((S15.1 41 10) + 1)) fun S24 =>
    zl (x3 + 1) fun (y25 : Int32) =>
    f_X12_atom_o_L90 hub ex i1 k y23 y25 S24
    else none
    else if a21 = 43 then
    if ia_in ((S15.1 41 8) + (S15.1 41 10)) 800 = true then
    zl (((10 * x2) + (S15.1 43 ((S15.1 41 8) + (S15.1 41 10)).toNatClampNeg)) - 48) fun (y27 : Int32) =>
    zl (sV S15 41 10 ((S15.1 41 10) + 1)) fun S28 =>
    zl (x3 + 1) fun (y29 : Int32) =>
    f_X12_atom_o_L90 hub ex i1 k y27 y29 S28
    else none
    else none
    else
    zb (f_X12_fails S15) fun r31 S30 =>
    some (0, S30)
def f_X12_atom_o (hub : zS → Option (Int32 × zS)) (S : zS) : Option (Int32 × zS) :=
zb (f_X12_look S) fun r2 S1 =>
zb (f_X12_isAmong_1000104 r2 S1) fun r5 S4 =>
if r5 = 0 then
if ¬ r2 = 91 then
zb (f_X12_isDigit S4) fun r10 S9 =>
zl (fun (S14 : zS) =>
f_X12_atom_o_L90 hub (fun (q34 : Int32) (q35 : Int32) (S33 : zS) =>
some (q34, S33)) r2 zN 0 0 S14) fun J13 =>
if ¬ r10 = 0 then
J13 S9
else
zb (f_X12_fails S9) fun r37 S36 =>
J13 S36
else
zb (f_X12_goesIn S4) fun r40 S39 =>
if ¬ r40 = 0 then
zb (hub S39) fun r44 S43 =>
zb (f_X12_takes 93 S43) fun r47 S46 =>
if ¬ r47 = 0 then
zl (sV S46 41 12 ((S46.1 41 12) - 1)) fun S50 =>
some (r44, S50)
else
some (0, S46)
else
some (0, S39)
else
zl (sV S4 41 10 ((S4.1 41 10) + 1)) fun S51 =>
if ia_in r2 128 = true then
some (S51.1 45 r2.toNatClampNeg, S51)
else none
theorem w_X12_atom_o_L90 {L : Nat} {xs : Nat → Int32} {fm : Bool} {h0 : Nat → va_E} {t : Nat × Nat × Nat} (hn1 : 64 ≤ t.1) (hn2 : t.1 ≤ 1000000) (d : Nat) {hub : zS → Option (Int32 × zS)} (hh : ∀ (h : Nat → va_E) (S : zS) (R : Int32 × zS), zE zDr h0 S (h, t) → hub  S = some R → zC (ia_P0 L xs fm) (d + 5) 12028 [.ref 41] (h, t) (zQi zDr h0 t R)) {ex : Int32 → Int32 → zS → Option (Int32 × zS)} {i1 : Int32} {R : Int32 × zS} (hex : ∀ (x2 : Int32) (x3 : Int32) (S : zS) (h : Nat → va_E), zE zDr h0 S (h, t) → ex x2 x3 S = some R → zW (ia_P0 L xs fm) ia_nx (d + 5) 12 false cX12_atom 4 (some .int) 156 [(0, .ref 41), (1, .int i1), (2, .int x2), (3, .int x3)] [] (h, t) (zQi zDr h0 t R)) : ∀ (k : Nat) (x2 : Int32) (x3 : Int32) (S : zS) (h : Nat → va_E), zE zDr h0 S (h, t) → f_X12_atom_o_L90 hub ex i1 k x2 x3 S = some R → zW (ia_P0 L xs fm) ia_nx (d + 5) 12 false cX12_atom 4 (some .int) 90 [(0, .ref 41), (1, .int i1), (2, .int x2), (3, .int x3)] [] (h, t) (zQi zDr h0 t R) := by
  intro k
  induction k with
  | zero => intro x2 x3 S h hE hf; cases hf
  | succ k ih =>
    intro x2 x3 S h hE hf
    unfold f_X12_atom_o_L90 at hf
    refine z_aload_n dX12_atom_90 rfl ?_
    obtain ⟨r16, S15, k17, hf⟩ := zb_some hf
    refine z_callVi dX12_atom_91 tM_12_165 mt_12019 (Nat.le_of_ble_eq_true rfl) rfl rfl (z_recv hE dr_41 rfl) rfl (ia_oks_le hn1 rfl) (Nat.le_of_ble_eq_true rfl) (w_X12_isDigit hn1 hn2 (d + 4) hE k17) (fun h hE => ?_)
    by_cases c18 : r16 = 0
    · have hf := zif_t hf c18
      refine z_if_eq_t (tgt := 156) dX12_atom_94 (by decide) c18 ?_
      exact zW.sub (hex x2 x3 S15 _ hE hf) [0, 1, 2, 3] rfl rfl rfl rfl
    · have hf := zif_f hf c18
      refine z_if_eq_f (tgt := 156) dX12_atom_94 (by decide) c18 ?_
      refine z_aload_n dX12_atom_97 rfl ?_
      refine z_getI dX12_atom_98 tF_12_125 hE dr_41 rfl rfl ?_
      refine z_iconst (v := (-1)) dX12_atom_101 (by decide) ?_
      by_cases c19 : ¬ (S15.1 41 11) = (-1)
      · have hf := zif_t hf c19
        refine z_icmp_ne_t (tgt := 156) dX12_atom_102 (by decide) c19 ?_
        exact zW.sub (hex x2 x3 S15 _ hE hf) [0, 1, 2, 3] rfl rfl rfl rfl
      · have hf := zif_f hf c19
        refine z_icmp_ne_f (tgt := 156) dX12_atom_102 (by decide) c19 ?_
        refine z_iload_n dX12_atom_105 rfl ?_
        refine z_iconst (v := 4) dX12_atom_106 (by decide) ?_
        by_cases c20 : ¬ x3 = 4
        · have hf := zif_t hf c20
          refine z_icmp_ne_t (tgt := 117) dX12_atom_107 (by decide) c20 ?_
          refine z_bipush (v := 10) dX12_atom_117 (by decide) ?_
          refine z_iload_n dX12_atom_119 rfl ?_
          refine z_imul dX12_atom_120 ?_
          refine z_aload_n dX12_atom_121 rfl ?_
          rcases zkr_some hf with ⟨-, hf⟩ | ⟨a21, ea21, hf⟩
          · cases hf
          · by_cases hqa21 : a21 = 42
            · replace hf := zif_t hf hqa21
              subst hqa21
              refine z_getK dX12_atom_122 tF_12_23 hE dr_41 rfl rfl ?_
              refine z_topv ea21 ?_
              refine z_aload_n dX12_atom_125 rfl ?_
              refine z_getI dX12_atom_126 tF_12_122 hE dr_41 rfl rfl ?_
              refine z_aload_n dX12_atom_129 rfl ?_
              refine z_getI dX12_atom_130 tF_12_116 hE dr_41 rfl rfl ?_
              refine z_iadd dX12_atom_133 ?_
              obtain ⟨b22, hf⟩ := zchk hf
              refine z_baload dX12_atom_134 hE dr_42 b22 ?_
              refine z_iadd dX12_atom_135 ?_
              refine z_bipush (v := 48) dX12_atom_136 (by decide) ?_
              refine z_isub dX12_atom_138 ?_
              obtain ⟨y23, ey23, hf⟩ := zl_some hf
              refine z_topi ey23 ?_
              refine z_istore_n (lv' := [(2, .int y23), (0, .ref 41), (1, .int i1), (3, .int x3)]) dX12_atom_139 (by decide) rfl ?_
              refine z_aload_n dX12_atom_140 rfl ?_
              refine z_dup dX12_atom_141 rfl ?_
              refine z_getI dX12_atom_142 tF_12_116 hE dr_41 rfl rfl ?_
              refine z_iconst (v := 1) dX12_atom_145 (by decide) ?_
              refine z_iadd dX12_atom_146 ?_
              obtain ⟨S24, eS24, hf⟩ := zl_some hf
              refine z_putI dX12_atom_147 tF_12_116 hE dr_41 rfl rfl rfl rfl (fun h hE => ?_)
              rw [← eS24] at hE
              obtain ⟨y25, ey25, hf⟩ := zl_some hf
              refine z_iincY (v := 1) (y := y25) (lv' := [(3, .int y25), (2, .int y23), (0, .ref 41), (1, .int i1)]) dX12_atom_150 rfl (by decide) (by decide) ey25 rfl ?_
              refine z_goto (tgt := 90) dX12_atom_153 (by decide) ?_
              exact zW.sub (ih y23 y25 S24 _ hE hf) [2, 3, 1, 0] rfl rfl rfl rfl
            · replace hf := zif_f hf hqa21
              have hwa21 := (zchk hf).1
              replace hf := (zchk hf).2
              clear hqa21
              subst hwa21
              refine z_getK dX12_atom_122 tF_12_23 hE dr_41 rfl rfl ?_
              refine z_topv ea21 ?_
              refine z_aload_n dX12_atom_125 rfl ?_
              refine z_getI dX12_atom_126 tF_12_122 hE dr_41 rfl rfl ?_
              refine z_aload_n dX12_atom_129 rfl ?_
              refine z_getI dX12_atom_130 tF_12_116 hE dr_41 rfl rfl ?_
              refine z_iadd dX12_atom_133 ?_
              obtain ⟨b26, hf⟩ := zchk hf
              refine z_baload dX12_atom_134 hE dr_43 b26 ?_
              refine z_iadd dX12_atom_135 ?_
              refine z_bipush (v := 48) dX12_atom_136 (by decide) ?_
              refine z_isub dX12_atom_138 ?_
              obtain ⟨y27, ey27, hf⟩ := zl_some hf
              refine z_topi ey27 ?_
              refine z_istore_n (lv' := [(2, .int y27), (0, .ref 41), (1, .int i1), (3, .int x3)]) dX12_atom_139 (by decide) rfl ?_
              refine z_aload_n dX12_atom_140 rfl ?_
              refine z_dup dX12_atom_141 rfl ?_
              refine z_getI dX12_atom_142 tF_12_116 hE dr_41 rfl rfl ?_
              refine z_iconst (v := 1) dX12_atom_145 (by decide) ?_
              refine z_iadd dX12_atom_146 ?_
              obtain ⟨S28, eS28, hf⟩ := zl_some hf
              refine z_putI dX12_atom_147 tF_12_116 hE dr_41 rfl rfl rfl rfl (fun h hE => ?_)
              rw [← eS28] at hE
              obtain ⟨y29, ey29, hf⟩ := zl_some hf
              refine z_iincY (v := 1) (y := y29) (lv' := [(3, .int y29), (2, .int y27), (0, .ref 41), (1, .int i1)]) dX12_atom_150 rfl (by decide) (by decide) ey29 rfl ?_
              refine z_goto (tgt := 90) dX12_atom_153 (by decide) ?_
              exact zW.sub (ih y27 y29 S28 _ hE hf) [2, 3, 1, 0] rfl rfl rfl rfl
        · have hf := zif_f hf c20
          refine z_icmp_ne_f (tgt := 117) dX12_atom_107 (by decide) c20 ?_
          refine z_aload_n dX12_atom_110 rfl ?_
          obtain ⟨r31, S30, k32, hf⟩ := zb_some hf
          refine z_callVi dX12_atom_111 tM_12_131 mt_12012 (Nat.le_of_ble_eq_true rfl) rfl rfl (z_recv hE dr_41 rfl) rfl (ia_oks_le hn1 rfl) (Nat.le_of_ble_eq_true rfl) (w_X12_fails hn1 hn2 (d + 4) hE k32) (fun h hE => ?_)
          refine z_pop dX12_atom_114 rfl ?_
          refine z_iconst (v := 0) dX12_atom_115 (by decide) ?_
          have e_ := Option.some.inj hf
          subst e_
          exact z_ireturn dX12_atom_116 rfl ⟨h, rfl, rfl, hE⟩
theorem w_X12_atom_o {L : Nat} {xs : Nat → Int32} {fm : Bool} {h0 : Nat → va_E} {t : Nat × Nat × Nat} (hn1 : 64 ≤ t.1) (hn2 : t.1 ≤ 1000000) (d : Nat) {hub : zS → Option (Int32 × zS)} (hh : ∀ (h : Nat → va_E) (S : zS) (R : Int32 × zS), zE zDr h0 S (h, t) → hub  S = some R → zC (ia_P0 L xs fm) (d + 5) 12028 [.ref 41] (h, t) (zQi zDr h0 t R)) {h : Nat → va_E} {S : zS} (hE : zE zDr h0 S (h, t)) {R : Int32 × zS} (hf : f_X12_atom_o hub S = some R) : zC (ia_P0 L xs fm) (d + 6) 12030 [.ref 41] (h, t) (zQi zDr h0 t R) := by
  refine zC_of mt_12030 nn_12030 (Nat.le_of_ble_eq_true rfl) ?_
  refine zW_lv (lv' := [(0, .ref 41)]) rfl ?_
  unfold f_X12_atom_o at hf
  refine z_aload_n dX12_atom_0 rfl ?_
  obtain ⟨r2, S1, k3, hf⟩ := zb_some hf
  refine z_callVi dX12_atom_1 tM_12_135 mt_12011 (Nat.le_of_ble_eq_true rfl) rfl rfl (z_recv hE dr_41 rfl) rfl (ia_oks_le hn1 rfl) (Nat.le_of_ble_eq_true rfl) (w_X12_look hn1 hn2 (d + 4) hE k3) (fun h hE => ?_)
  refine z_istore_n (lv' := [(1, .int r2), (0, .ref 41)]) dX12_atom_4 (by decide) rfl ?_
  refine z_ldcS dX12_atom_5 tK_12_32 ?_
  refine z_iload_n dX12_atom_7 rfl ?_
  obtain ⟨r5, S4, k6, hf⟩ := zb_some hf
  refine z_callSi dX12_atom_8 tM_12_151 (by decide) mt_12023 (Nat.le_of_ble_eq_true rfl) rfl rfl (ia_oks_le hn1 rfl) (Nat.le_of_ble_eq_true rfl) (w_X12_isAmong_1000104 hn1 hn2 (d + 0) hE k6) (fun h hE => ?_)
  by_cases c7 : r5 = 0
  · have hf := zif_t hf c7
    refine z_if_eq_t (tgt := 31) dX12_atom_11 (by decide) c7 ?_
    refine z_iload_n dX12_atom_31 rfl ?_
    refine z_bipush (v := 91) dX12_atom_32 (by decide) ?_
    by_cases c8 : ¬ r2 = 91
    · have hf := zif_t hf c8
      refine z_icmp_ne_t (tgt := 74) dX12_atom_34 (by decide) c8 ?_
      refine z_aload_n dX12_atom_74 rfl ?_
      obtain ⟨r10, S9, k11, hf⟩ := zb_some hf
      refine z_callVi dX12_atom_75 tM_12_165 mt_12019 (Nat.le_of_ble_eq_true rfl) rfl rfl (z_recv hE dr_41 rfl) rfl (ia_oks_le hn1 rfl) (Nat.le_of_ble_eq_true rfl) (w_X12_isDigit hn1 hn2 (d + 4) hE k11) (fun h hE => ?_)
      obtain ⟨J13, eJ13, hf⟩ := zl_some hf
      have hJ13 : ∀ (S14 : zS) (h : Nat → va_E), zE zDr h0 S14 (h, t) → J13 S14 = some R → zW (ia_P0 L xs fm) ia_nx (d + 5) 12 false cX12_atom 4 (some .int) 86 [(0, .ref 41), (1, .int r2)] [] (h, t) (zQi zDr h0 t R) := by
        intro S14 h hE hf
        rw [eJ13] at hf
        refine z_iconst (v := 0) dX12_atom_86 (by decide) ?_
        refine z_istore_n (lv' := [(2, .int 0), (0, .ref 41), (1, .int r2)]) dX12_atom_87 (by decide) rfl ?_
        refine z_iconst (v := 0) dX12_atom_88 (by decide) ?_
        refine z_istore_n (lv' := [(3, .int 0), (2, .int 0), (0, .ref 41), (1, .int r2)]) dX12_atom_89 (by decide) rfl ?_
        refine zW.sub (w_X12_atom_o_L90 hn1 hn2 d hh (fun q34 q35 S33 h hE hf => ?_) zN 0 0 S14 h hE hf) [2, 3, 1, 0] rfl rfl rfl rfl
        try dsimp only at hf
        refine z_iload_n dX12_atom_156 rfl ?_
        have e_ := Option.some.inj hf
        subst e_
        exact z_ireturn dX12_atom_157 rfl ⟨h, rfl, rfl, hE⟩
      by_cases c12 : ¬ r10 = 0
      · have hf := zif_t hf c12
        refine z_if_ne_t (tgt := 86) dX12_atom_78 (by decide) c12 ?_
        exact zW.sub (hJ13 S9 _ hE hf) [1, 0] rfl rfl rfl rfl
      · have hf := zif_f hf c12
        refine z_if_ne_f (tgt := 86) dX12_atom_78 (by decide) c12 ?_
        refine z_aload_n dX12_atom_81 rfl ?_
        obtain ⟨r37, S36, k38, hf⟩ := zb_some hf
        refine z_callVi dX12_atom_82 tM_12_131 mt_12012 (Nat.le_of_ble_eq_true rfl) rfl rfl (z_recv hE dr_41 rfl) rfl (ia_oks_le hn1 rfl) (Nat.le_of_ble_eq_true rfl) (w_X12_fails hn1 hn2 (d + 4) hE k38) (fun h hE => ?_)
        refine z_pop dX12_atom_85 rfl ?_
        exact zW.sub (hJ13 S36 _ hE hf) [1, 0] rfl rfl rfl rfl
    · have hf := zif_f hf c8
      refine z_icmp_ne_f (tgt := 74) dX12_atom_34 (by decide) c8 ?_
      refine z_aload_n dX12_atom_37 rfl ?_
      obtain ⟨r40, S39, k41, hf⟩ := zb_some hf
      refine z_callVi dX12_atom_38 tM_12_155 mt_12031 (Nat.le_of_ble_eq_true rfl) rfl rfl (z_recv hE dr_41 rfl) rfl (ia_oks_le hn1 rfl) (Nat.le_of_ble_eq_true rfl) (w_X12_goesIn hn1 hn2 (d + 3) hE k41) (fun h hE => ?_)
      by_cases c42 : ¬ r40 = 0
      · have hf := zif_t hf c42
        refine z_if_ne_t (tgt := 46) dX12_atom_41 (by decide) c42 ?_
        refine z_aload_n dX12_atom_46 rfl ?_
        obtain ⟨r44, S43, k45, hf⟩ := zb_some hf
        refine z_callVi dX12_atom_47 tM_12_158 mt_12028 (Nat.le_of_ble_eq_true rfl) rfl rfl (z_recv hE dr_41 rfl) rfl (ia_oks_le hn1 rfl) (Nat.le_of_ble_eq_true rfl) ((hh  h S39 _ hE k45).mono (by omega)) (fun h hE => ?_)
        refine z_istore_n (lv' := [(2, .int r44), (1, .int r2), (0, .ref 41)]) dX12_atom_50 (by decide) rfl ?_
        refine z_aload_n dX12_atom_51 rfl ?_
        refine z_bipush (v := 93) dX12_atom_52 (by decide) ?_
        obtain ⟨r47, S46, k48, hf⟩ := zb_some hf
        refine z_callVi dX12_atom_54 tM_12_161 mt_12024 (Nat.le_of_ble_eq_true rfl) rfl rfl (z_recv hE dr_41 rfl) rfl (ia_oks_le hn1 rfl) (Nat.le_of_ble_eq_true rfl) (w_X12_takes hn1 hn2 (d + 3) hE k48) (fun h hE => ?_)
        by_cases c49 : ¬ r47 = 0
        · have hf := zif_t hf c49
          refine z_if_ne_t (tgt := 62) dX12_atom_57 (by decide) c49 ?_
          refine z_aload_n dX12_atom_62 rfl ?_
          refine z_dup dX12_atom_63 rfl ?_
          refine z_getI dX12_atom_64 tF_12_128 hE dr_41 rfl rfl ?_
          refine z_iconst (v := 1) dX12_atom_67 (by decide) ?_
          refine z_isub dX12_atom_68 ?_
          obtain ⟨S50, eS50, hf⟩ := zl_some hf
          refine z_putI dX12_atom_69 tF_12_128 hE dr_41 rfl rfl rfl rfl (fun h hE => ?_)
          rw [← eS50] at hE
          refine z_iload_n dX12_atom_72 rfl ?_
          have e_ := Option.some.inj hf
          subst e_
          exact z_ireturn dX12_atom_73 rfl ⟨h, rfl, rfl, hE⟩
        · have hf := zif_f hf c49
          refine z_if_ne_f (tgt := 62) dX12_atom_57 (by decide) c49 ?_
          refine z_iconst (v := 0) dX12_atom_60 (by decide) ?_
          have e_ := Option.some.inj hf
          subst e_
          exact z_ireturn dX12_atom_61 rfl ⟨h, rfl, rfl, hE⟩
      · have hf := zif_f hf c42
        refine z_if_ne_f (tgt := 46) dX12_atom_41 (by decide) c42 ?_
        refine z_iconst (v := 0) dX12_atom_44 (by decide) ?_
        have e_ := Option.some.inj hf
        subst e_
        exact z_ireturn dX12_atom_45 rfl ⟨h, rfl, rfl, hE⟩
  · have hf := zif_f hf c7
    refine z_if_eq_f (tgt := 31) dX12_atom_11 (by decide) c7 ?_
    refine z_aload_n dX12_atom_14 rfl ?_
    refine z_dup dX12_atom_15 rfl ?_
    refine z_getI dX12_atom_16 tF_12_116 hE dr_41 rfl rfl ?_
    refine z_iconst (v := 1) dX12_atom_19 (by decide) ?_
    refine z_iadd dX12_atom_20 ?_
    obtain ⟨S51, eS51, hf⟩ := zl_some hf
    refine z_putI dX12_atom_21 tF_12_116 hE dr_41 rfl rfl rfl rfl (fun h hE => ?_)
    rw [← eS51] at hE
    refine z_aload_n dX12_atom_24 rfl ?_
    refine z_getC dX12_atom_25 tF_12_20 hE dr_41 rfl rfl ?_
    refine z_iload_n dX12_atom_28 rfl ?_
    obtain ⟨b52, hf⟩ := zchk hf
    refine z_ialoadL dX12_atom_29 hE dr_45 b52 rfl ?_
    have e_ := Option.some.inj hf
    subst e_
    exact z_ireturn dX12_atom_30 rfl ⟨h, rfl, rfl, hE⟩
def f_X12_within (v0 : Int64) (S : zS) : Option (Int32 × zS) :=
some ((if (if v0 < 1000000 then v0 else 1000000) < (-1000000) then (-1000000) else (if v0 < 1000000 then v0 else 1000000)).toInt32, S)
theorem w_X12_within {L : Nat} {xs : Nat → Int32} {fm : Bool} {h0 : Nat → va_E} {t : Nat × Nat × Nat} (hn1 : 64 ≤ t.1) (hn2 : t.1 ≤ 1000000) (d : Nat) {h : Nat → va_E} {S : zS} (hE : zE zDr h0 S (h, t)) {v0 : Int64} {R : Int32 × zS} (hf : f_X12_within v0 S = some R) : zC (ia_P0 L xs fm) (d + 1) 12032 [.long v0] (h, t) (zQi zDr h0 t R) := by
  refine zC_of mt_12032 nn_12032 (Nat.le_of_ble_eq_true rfl) ?_
  refine zW_lv (lv' := [(0, .long v0)]) rfl ?_
  unfold f_X12_within at hf
  refine z_ldc2 dX12_within_0 tK_12_138 ?_
  refine z_ldc2 dX12_within_3 tK_12_140 ?_
  refine z_lload_n dX12_within_6 rfl ?_
  refine z_lmin dX12_within_7 tM_12_142 (Nat.le_of_ble_eq_true rfl) ?_
  refine z_lmax dX12_within_10 tM_12_148 (Nat.le_of_ble_eq_true rfl) ?_
  refine z_l2i dX12_within_13 ?_
  have e_ := Option.some.inj hf
  subst e_
  exact z_ireturn dX12_within_14 rfl ⟨h, rfl, rfl, hE⟩
def f_X12_term_o_L5 (hub : zS → Option (Int32 × zS)) (ex : Int32 → zS → Option (Int32 × zS))  : Nat → Int32 → zS → Option (Int32 × zS)
  | 0, _, _ => none
  | k + 1, x1, S =>
    if ¬ (S.1 41 11) = (-1) then
    ex x1 S
    else
    zb (f_X12_look S) fun r6 S5 =>
    zl (fun (S10 : zS) =>
    zb (f_X12_look S10) fun r12 S11 =>
    zl (fun (q16 : Int32) =>
    zl (sV S11 41 10 ((S11.1 41 10) + 1)) fun S17 =>
    zb (f_X12_atom_o hub S17) fun r19 S18 =>
    if q16 = 0 then
    if ¬ (lg_cmp (r19.toInt64) 0) = 0 then
    if r19.toInt64 = 0 then none else
    zb (f_X12_within ((x1.toInt64) / (r19.toInt64)) S18) fun r24 S23 =>
    f_X12_term_o_L5 hub ex k r24 S23
    else
    zb (f_X12_within 0 S18) fun r28 S27 =>
    f_X12_term_o_L5 hub ex k r28 S27
    else
    zb (f_X12_within ((x1.toInt64) * (r19.toInt64)) S18) fun r31 S30 =>
    f_X12_term_o_L5 hub ex k r31 S30) fun J15 =>
    if ¬ r12 = 42 then
    J15 0
    else
    J15 1) fun J9 =>
    if r6 = 42 then
    J9 S5
    else
    zb (f_X12_look S5) fun r34 S33 =>
    if ¬ r34 = 47 then
    ex x1 S33
    else
    J9 S33
def f_X12_term_o (hub : zS → Option (Int32 × zS)) (S : zS) : Option (Int32 × zS) :=
zb (f_X12_atom_o hub S) fun r2 S1 =>
f_X12_term_o_L5 hub (fun (q38 : Int32) (S37 : zS) =>
some (q38, S37))  zN r2 S1
theorem w_X12_term_o_L5 {L : Nat} {xs : Nat → Int32} {fm : Bool} {h0 : Nat → va_E} {t : Nat × Nat × Nat} (hn1 : 64 ≤ t.1) (hn2 : t.1 ≤ 1000000) (d : Nat) {hub : zS → Option (Int32 × zS)} (hh : ∀ (h : Nat → va_E) (S : zS) (R : Int32 × zS), zE zDr h0 S (h, t) → hub  S = some R → zC (ia_P0 L xs fm) (d + 5) 12028 [.ref 41] (h, t) (zQi zDr h0 t R)) {ex : Int32 → zS → Option (Int32 × zS)} {R : Int32 × zS} (hex : ∀ (x1 : Int32) (S : zS) (h : Nat → va_E), zE zDr h0 S (h, t) → ex x1 S = some R → zW (ia_P0 L xs fm) ia_nx (d + 6) 12 false cX12_term 5 (some .int) 94 [(0, .ref 41), (1, .int x1)] [] (h, t) (zQi zDr h0 t R)) : ∀ (k : Nat) (x1 : Int32) (S : zS) (h : Nat → va_E), zE zDr h0 S (h, t) → f_X12_term_o_L5 hub ex  k x1 S = some R → zW (ia_P0 L xs fm) ia_nx (d + 6) 12 false cX12_term 5 (some .int) 5 [(0, .ref 41), (1, .int x1)] [] (h, t) (zQi zDr h0 t R) := by
  intro k
  induction k with
  | zero => intro x1 S h hE hf; cases hf
  | succ k ih =>
    intro x1 S h hE hf
    unfold f_X12_term_o_L5 at hf
    refine z_aload_n dX12_term_5 rfl ?_
    refine z_getI dX12_term_6 tF_12_125 hE dr_41 rfl rfl ?_
    refine z_iconst (v := (-1)) dX12_term_9 (by decide) ?_
    by_cases c4 : ¬ (S.1 41 11) = (-1)
    · have hf := zif_t hf c4
      refine z_icmp_ne_t (tgt := 94) dX12_term_10 (by decide) c4 ?_
      exact zW.sub (hex x1 S _ hE hf) [0, 1] rfl rfl rfl rfl
    · have hf := zif_f hf c4
      refine z_icmp_ne_f (tgt := 94) dX12_term_10 (by decide) c4 ?_
      refine z_aload_n dX12_term_13 rfl ?_
      obtain ⟨r6, S5, k7, hf⟩ := zb_some hf
      refine z_callVi dX12_term_14 tM_12_135 mt_12011 (Nat.le_of_ble_eq_true rfl) rfl rfl (z_recv hE dr_41 rfl) rfl (ia_oks_le hn1 rfl) (Nat.le_of_ble_eq_true rfl) (w_X12_look hn1 hn2 (d + 5) hE k7) (fun h hE => ?_)
      refine z_bipush (v := 42) dX12_term_17 (by decide) ?_
      obtain ⟨J9, eJ9, hf⟩ := zl_some hf
      have hJ9 : ∀ (S10 : zS) (h : Nat → va_E), zE zDr h0 S10 (h, t) → J9 S10 = some R → zW (ia_P0 L xs fm) ia_nx (d + 6) 12 false cX12_term 5 (some .int) 31 [(0, .ref 41), (1, .int x1)] [] (h, t) (zQi zDr h0 t R) := by
        intro S10 h hE hf
        rw [eJ9] at hf
        refine z_aload_n dX12_term_31 rfl ?_
        obtain ⟨r12, S11, k13, hf⟩ := zb_some hf
        refine z_callVi dX12_term_32 tM_12_135 mt_12011 (Nat.le_of_ble_eq_true rfl) rfl rfl (z_recv hE dr_41 rfl) rfl (ia_oks_le hn1 rfl) (Nat.le_of_ble_eq_true rfl) (w_X12_look hn1 hn2 (d + 5) hE k13) (fun h hE => ?_)
        refine z_bipush (v := 42) dX12_term_35 (by decide) ?_
        obtain ⟨J15, eJ15, hf⟩ := zl_some hf
        have hJ15 : ∀ (q16 : Int32) (h : Nat → va_E), zE zDr h0 S11 (h, t) → J15 q16 = some R → zW (ia_P0 L xs fm) ia_nx (d + 6) 12 false cX12_term 5 (some .int) 45 [(0, .ref 41), (1, .int x1)] [.int q16] (h, t) (zQi zDr h0 t R) := by
          intro q16 h hE hf
          rw [eJ15] at hf
          refine z_istore_n (lv' := [(2, .int q16), (0, .ref 41), (1, .int x1)]) dX12_term_45 (by decide) rfl ?_
          refine z_aload_n dX12_term_46 rfl ?_
          refine z_dup dX12_term_47 rfl ?_
          refine z_getI dX12_term_48 tF_12_116 hE dr_41 rfl rfl ?_
          refine z_iconst (v := 1) dX12_term_51 (by decide) ?_
          refine z_iadd dX12_term_52 ?_
          obtain ⟨S17, eS17, hf⟩ := zl_some hf
          refine z_putI dX12_term_53 tF_12_116 hE dr_41 rfl rfl rfl rfl (fun h hE => ?_)
          rw [← eS17] at hE
          refine z_aload_n dX12_term_56 rfl ?_
          obtain ⟨r19, S18, k20, hf⟩ := zb_some hf
          refine z_callVi dX12_term_57 tM_12_168 mt_12030 (Nat.le_of_ble_eq_true rfl) rfl rfl (z_recv hE dr_41 rfl) rfl (ia_oks_le hn1 rfl) (Nat.le_of_ble_eq_true rfl) (w_X12_atom_o hn1 hn2 (d + 0) (fun  h S R hE hk => (hh  h S R hE hk).mono (by omega)) hE k20) (fun h hE => ?_)
          refine z_i2l dX12_term_60 ?_
          refine z_lstore_n (lv' := [(3, .long (r19.toInt64)), (2, .int q16), (0, .ref 41), (1, .int x1)]) dX12_term_61 (by decide) rfl ?_
          refine z_iload_n dX12_term_62 rfl ?_
          by_cases c21 : q16 = 0
          · have hf := zif_t hf c21
            refine z_if_eq_t (tgt := 73) dX12_term_63 (by decide) c21 ?_
            refine z_lload_n dX12_term_73 rfl ?_
            refine z_lconst (v := 0) dX12_term_74 (by decide) ?_
            refine z_lcmp dX12_term_75 ?_
            by_cases c22 : ¬ (lg_cmp (r19.toInt64) 0) = 0
            · have hf := zif_t hf c22
              refine z_if_ne_t (tgt := 83) dX12_term_76 (by decide) c22 ?_
              refine z_iload_n dX12_term_83 rfl ?_
              refine z_i2l dX12_term_84 ?_
              refine z_lload_n dX12_term_85 rfl ?_
              obtain ⟨b26, hf⟩ := zchkn hf
              refine z_ldiv dX12_term_86 b26 ?_
              obtain ⟨r24, S23, k25, hf⟩ := zb_some hf
              refine z_callSi dX12_term_87 tM_12_171 (by decide) mt_12032 (Nat.le_of_ble_eq_true rfl) rfl rfl (ia_oks_le hn1 rfl) (Nat.le_of_ble_eq_true rfl) (w_X12_within hn1 hn2 (d + 5) hE k25) (fun h hE => ?_)
              refine z_istore_n (lv' := [(1, .int r24), (3, .long (r19.toInt64)), (2, .int q16), (0, .ref 41)]) dX12_term_90 (by decide) rfl ?_
              refine z_goto (tgt := 5) dX12_term_91 (by decide) ?_
              exact zW.sub (ih r24 S23 _ hE hf) [3, 0] rfl rfl rfl rfl
            · have hf := zif_f hf c22
              refine z_if_ne_f (tgt := 83) dX12_term_76 (by decide) c22 ?_
              refine z_lconst (v := 0) dX12_term_79 (by decide) ?_
              refine z_goto (tgt := 87) dX12_term_80 (by decide) ?_
              obtain ⟨r28, S27, k29, hf⟩ := zb_some hf
              refine z_callSi dX12_term_87 tM_12_171 (by decide) mt_12032 (Nat.le_of_ble_eq_true rfl) rfl rfl (ia_oks_le hn1 rfl) (Nat.le_of_ble_eq_true rfl) (w_X12_within hn1 hn2 (d + 5) hE k29) (fun h hE => ?_)
              refine z_istore_n (lv' := [(1, .int r28), (3, .long (r19.toInt64)), (2, .int q16), (0, .ref 41)]) dX12_term_90 (by decide) rfl ?_
              refine z_goto (tgt := 5) dX12_term_91 (by decide) ?_
              exact zW.sub (ih r28 S27 _ hE hf) [3, 0] rfl rfl rfl rfl
          · have hf := zif_f hf c21
            refine z_if_eq_f (tgt := 73) dX12_term_63 (by decide) c21 ?_
            refine z_iload_n dX12_term_66 rfl ?_
            refine z_i2l dX12_term_67 ?_
            refine z_lload_n dX12_term_68 rfl ?_
            refine z_lmul dX12_term_69 ?_
            refine z_goto (tgt := 87) dX12_term_70 (by decide) ?_
            obtain ⟨r31, S30, k32, hf⟩ := zb_some hf
            refine z_callSi dX12_term_87 tM_12_171 (by decide) mt_12032 (Nat.le_of_ble_eq_true rfl) rfl rfl (ia_oks_le hn1 rfl) (Nat.le_of_ble_eq_true rfl) (w_X12_within hn1 hn2 (d + 5) hE k32) (fun h hE => ?_)
            refine z_istore_n (lv' := [(1, .int r31), (3, .long (r19.toInt64)), (2, .int q16), (0, .ref 41)]) dX12_term_90 (by decide) rfl ?_
            refine z_goto (tgt := 5) dX12_term_91 (by decide) ?_
            exact zW.sub (ih r31 S30 _ hE hf) [3, 0] rfl rfl rfl rfl
        by_cases c14 : ¬ r12 = 42
        · have hf := zif_t hf c14
          refine z_icmp_ne_t (tgt := 44) dX12_term_37 (by decide) c14 ?_
          refine z_iconst (v := 0) dX12_term_44 (by decide) ?_
          exact zW.sub (hJ15 0 _ hE hf) [0, 1] rfl rfl rfl rfl
        · have hf := zif_f hf c14
          refine z_icmp_ne_f (tgt := 44) dX12_term_37 (by decide) c14 ?_
          refine z_iconst (v := 1) dX12_term_40 (by decide) ?_
          refine z_goto (tgt := 45) dX12_term_41 (by decide) ?_
          exact zW.sub (hJ15 1 _ hE hf) [0, 1] rfl rfl rfl rfl
      by_cases c8 : r6 = 42
      · have hf := zif_t hf c8
        refine z_icmp_eq_t (tgt := 31) dX12_term_19 (by decide) c8 ?_
        exact zW.sub (hJ9 S5 _ hE hf) [0, 1] rfl rfl rfl rfl
      · have hf := zif_f hf c8
        refine z_icmp_eq_f (tgt := 31) dX12_term_19 (by decide) c8 ?_
        refine z_aload_n dX12_term_22 rfl ?_
        obtain ⟨r34, S33, k35, hf⟩ := zb_some hf
        refine z_callVi dX12_term_23 tM_12_135 mt_12011 (Nat.le_of_ble_eq_true rfl) rfl rfl (z_recv hE dr_41 rfl) rfl (ia_oks_le hn1 rfl) (Nat.le_of_ble_eq_true rfl) (w_X12_look hn1 hn2 (d + 5) hE k35) (fun h hE => ?_)
        refine z_bipush (v := 47) dX12_term_26 (by decide) ?_
        by_cases c36 : ¬ r34 = 47
        · have hf := zif_t hf c36
          refine z_icmp_ne_t (tgt := 94) dX12_term_28 (by decide) c36 ?_
          exact zW.sub (hex x1 S33 _ hE hf) [0, 1] rfl rfl rfl rfl
        · have hf := zif_f hf c36
          refine z_icmp_ne_f (tgt := 94) dX12_term_28 (by decide) c36 ?_
          exact zW.sub (hJ9 S33 _ hE hf) [0, 1] rfl rfl rfl rfl
theorem w_X12_term_o {L : Nat} {xs : Nat → Int32} {fm : Bool} {h0 : Nat → va_E} {t : Nat × Nat × Nat} (hn1 : 64 ≤ t.1) (hn2 : t.1 ≤ 1000000) (d : Nat) {hub : zS → Option (Int32 × zS)} (hh : ∀ (h : Nat → va_E) (S : zS) (R : Int32 × zS), zE zDr h0 S (h, t) → hub  S = some R → zC (ia_P0 L xs fm) (d + 5) 12028 [.ref 41] (h, t) (zQi zDr h0 t R)) {h : Nat → va_E} {S : zS} (hE : zE zDr h0 S (h, t)) {R : Int32 × zS} (hf : f_X12_term_o hub S = some R) : zC (ia_P0 L xs fm) (d + 7) 12029 [.ref 41] (h, t) (zQi zDr h0 t R) := by
  refine zC_of mt_12029 nn_12029 (Nat.le_of_ble_eq_true rfl) ?_
  refine zW_lv (lv' := [(0, .ref 41)]) rfl ?_
  unfold f_X12_term_o at hf
  refine z_aload_n dX12_term_0 rfl ?_
  obtain ⟨r2, S1, k3, hf⟩ := zb_some hf
  refine z_callVi dX12_term_1 tM_12_168 mt_12030 (Nat.le_of_ble_eq_true rfl) rfl rfl (z_recv hE dr_41 rfl) rfl (ia_oks_le hn1 rfl) (Nat.le_of_ble_eq_true rfl) (w_X12_atom_o hn1 hn2 (d + 0) (fun  h S R hE hk => (hh  h S R hE hk).mono (by omega)) hE k3) (fun h hE => ?_)
  refine z_istore_n (lv' := [(1, .int r2), (0, .ref 41)]) dX12_term_4 (by decide) rfl ?_
  refine zW.sub (w_X12_term_o_L5 hn1 hn2 d hh (fun q38 S37 h hE hf => ?_) zN r2 S1 h hE hf) [1, 0] rfl rfl rfl rfl
  try dsimp only at hf
  refine z_iload_n dX12_term_94 rfl ?_
  have e_ := Option.some.inj hf
  subst e_
  exact z_ireturn dX12_term_95 rfl ⟨h, rfl, rfl, hE⟩
def f_X12_sum_o_L5 (hub : zS → Option (Int32 × zS)) (ex : Int32 → zS → Option (Int32 × zS))  : Nat → Int32 → zS → Option (Int32 × zS)
  | 0, _, _ => none
  | k + 1, x1, S =>
    if ¬ (S.1 41 11) = (-1) then
    ex x1 S
    else
    zb (f_X12_look S) fun r6 S5 =>
    zl (fun (S10 : zS) =>
    zb (f_X12_look S10) fun r12 S11 =>
    zl (fun (q16 : Int32) =>
    zl (sV S11 41 10 ((S11.1 41 10) + 1)) fun S17 =>
    zb (f_X12_term_o hub S17) fun r19 S18 =>
    if q16 = 0 then
    zb (f_X12_within ((x1.toInt64) - (r19.toInt64)) S18) fun r23 S22 =>
    f_X12_sum_o_L5 hub ex k r23 S22
    else
    zb (f_X12_within ((x1.toInt64) + (r19.toInt64)) S18) fun r26 S25 =>
    f_X12_sum_o_L5 hub ex k r26 S25) fun J15 =>
    if ¬ r12 = 43 then
    J15 0
    else
    J15 1) fun J9 =>
    if r6 = 43 then
    J9 S5
    else
    zb (f_X12_look S5) fun r29 S28 =>
    if ¬ r29 = 45 then
    ex x1 S28
    else
    J9 S28
def f_X12_sum_o (hub : zS → Option (Int32 × zS)) (S : zS) : Option (Int32 × zS) :=
zb (f_X12_term_o hub S) fun r2 S1 =>
f_X12_sum_o_L5 hub (fun (q33 : Int32) (S32 : zS) =>
some (q33, S32))  zN r2 S1
theorem w_X12_sum_o_L5 {L : Nat} {xs : Nat → Int32} {fm : Bool} {h0 : Nat → va_E} {t : Nat × Nat × Nat} (hn1 : 64 ≤ t.1) (hn2 : t.1 ≤ 1000000) (d : Nat) {hub : zS → Option (Int32 × zS)} (hh : ∀ (h : Nat → va_E) (S : zS) (R : Int32 × zS), zE zDr h0 S (h, t) → hub  S = some R → zC (ia_P0 L xs fm) (d + 5) 12028 [.ref 41] (h, t) (zQi zDr h0 t R)) {ex : Int32 → zS → Option (Int32 × zS)} {R : Int32 × zS} (hex : ∀ (x1 : Int32) (S : zS) (h : Nat → va_E), zE zDr h0 S (h, t) → ex x1 S = some R → zW (ia_P0 L xs fm) ia_nx (d + 7) 12 false cX12_sum 5 (some .int) 84 [(0, .ref 41), (1, .int x1)] [] (h, t) (zQi zDr h0 t R)) : ∀ (k : Nat) (x1 : Int32) (S : zS) (h : Nat → va_E), zE zDr h0 S (h, t) → f_X12_sum_o_L5 hub ex  k x1 S = some R → zW (ia_P0 L xs fm) ia_nx (d + 7) 12 false cX12_sum 5 (some .int) 5 [(0, .ref 41), (1, .int x1)] [] (h, t) (zQi zDr h0 t R) := by
  intro k
  induction k with
  | zero => intro x1 S h hE hf; cases hf
  | succ k ih =>
    intro x1 S h hE hf
    unfold f_X12_sum_o_L5 at hf
    refine z_aload_n dX12_sum_5 rfl ?_
    refine z_getI dX12_sum_6 tF_12_125 hE dr_41 rfl rfl ?_
    refine z_iconst (v := (-1)) dX12_sum_9 (by decide) ?_
    by_cases c4 : ¬ (S.1 41 11) = (-1)
    · have hf := zif_t hf c4
      refine z_icmp_ne_t (tgt := 84) dX12_sum_10 (by decide) c4 ?_
      exact zW.sub (hex x1 S _ hE hf) [0, 1] rfl rfl rfl rfl
    · have hf := zif_f hf c4
      refine z_icmp_ne_f (tgt := 84) dX12_sum_10 (by decide) c4 ?_
      refine z_aload_n dX12_sum_13 rfl ?_
      obtain ⟨r6, S5, k7, hf⟩ := zb_some hf
      refine z_callVi dX12_sum_14 tM_12_135 mt_12011 (Nat.le_of_ble_eq_true rfl) rfl rfl (z_recv hE dr_41 rfl) rfl (ia_oks_le hn1 rfl) (Nat.le_of_ble_eq_true rfl) (w_X12_look hn1 hn2 (d + 6) hE k7) (fun h hE => ?_)
      refine z_bipush (v := 43) dX12_sum_17 (by decide) ?_
      obtain ⟨J9, eJ9, hf⟩ := zl_some hf
      have hJ9 : ∀ (S10 : zS) (h : Nat → va_E), zE zDr h0 S10 (h, t) → J9 S10 = some R → zW (ia_P0 L xs fm) ia_nx (d + 7) 12 false cX12_sum 5 (some .int) 31 [(0, .ref 41), (1, .int x1)] [] (h, t) (zQi zDr h0 t R) := by
        intro S10 h hE hf
        rw [eJ9] at hf
        refine z_aload_n dX12_sum_31 rfl ?_
        obtain ⟨r12, S11, k13, hf⟩ := zb_some hf
        refine z_callVi dX12_sum_32 tM_12_135 mt_12011 (Nat.le_of_ble_eq_true rfl) rfl rfl (z_recv hE dr_41 rfl) rfl (ia_oks_le hn1 rfl) (Nat.le_of_ble_eq_true rfl) (w_X12_look hn1 hn2 (d + 6) hE k13) (fun h hE => ?_)
        refine z_bipush (v := 43) dX12_sum_35 (by decide) ?_
        obtain ⟨J15, eJ15, hf⟩ := zl_some hf
        have hJ15 : ∀ (q16 : Int32) (h : Nat → va_E), zE zDr h0 S11 (h, t) → J15 q16 = some R → zW (ia_P0 L xs fm) ia_nx (d + 7) 12 false cX12_sum 5 (some .int) 45 [(0, .ref 41), (1, .int x1)] [.int q16] (h, t) (zQi zDr h0 t R) := by
          intro q16 h hE hf
          rw [eJ15] at hf
          refine z_istore_n (lv' := [(2, .int q16), (0, .ref 41), (1, .int x1)]) dX12_sum_45 (by decide) rfl ?_
          refine z_aload_n dX12_sum_46 rfl ?_
          refine z_dup dX12_sum_47 rfl ?_
          refine z_getI dX12_sum_48 tF_12_116 hE dr_41 rfl rfl ?_
          refine z_iconst (v := 1) dX12_sum_51 (by decide) ?_
          refine z_iadd dX12_sum_52 ?_
          obtain ⟨S17, eS17, hf⟩ := zl_some hf
          refine z_putI dX12_sum_53 tF_12_116 hE dr_41 rfl rfl rfl rfl (fun h hE => ?_)
          rw [← eS17] at hE
          refine z_aload_n dX12_sum_56 rfl ?_
          obtain ⟨r19, S18, k20, hf⟩ := zb_some hf
          refine z_callVi dX12_sum_57 tM_12_175 mt_12029 (Nat.le_of_ble_eq_true rfl) rfl rfl (z_recv hE dr_41 rfl) rfl (ia_oks_le hn1 rfl) (Nat.le_of_ble_eq_true rfl) (w_X12_term_o hn1 hn2 (d + 0) (fun  h S R hE hk => (hh  h S R hE hk).mono (by omega)) hE k20) (fun h hE => ?_)
          refine z_i2l dX12_sum_60 ?_
          refine z_lstore_n (lv' := [(3, .long (r19.toInt64)), (2, .int q16), (0, .ref 41), (1, .int x1)]) dX12_sum_61 (by decide) rfl ?_
          refine z_iload_n dX12_sum_62 rfl ?_
          by_cases c21 : q16 = 0
          · have hf := zif_t hf c21
            refine z_if_eq_t (tgt := 73) dX12_sum_63 (by decide) c21 ?_
            refine z_iload_n dX12_sum_73 rfl ?_
            refine z_i2l dX12_sum_74 ?_
            refine z_lload_n dX12_sum_75 rfl ?_
            refine z_lsub dX12_sum_76 ?_
            obtain ⟨r23, S22, k24, hf⟩ := zb_some hf
            refine z_callSi dX12_sum_77 tM_12_171 (by decide) mt_12032 (Nat.le_of_ble_eq_true rfl) rfl rfl (ia_oks_le hn1 rfl) (Nat.le_of_ble_eq_true rfl) (w_X12_within hn1 hn2 (d + 6) hE k24) (fun h hE => ?_)
            refine z_istore_n (lv' := [(1, .int r23), (3, .long (r19.toInt64)), (2, .int q16), (0, .ref 41)]) dX12_sum_80 (by decide) rfl ?_
            refine z_goto (tgt := 5) dX12_sum_81 (by decide) ?_
            exact zW.sub (ih r23 S22 _ hE hf) [3, 0] rfl rfl rfl rfl
          · have hf := zif_f hf c21
            refine z_if_eq_f (tgt := 73) dX12_sum_63 (by decide) c21 ?_
            refine z_iload_n dX12_sum_66 rfl ?_
            refine z_i2l dX12_sum_67 ?_
            refine z_lload_n dX12_sum_68 rfl ?_
            refine z_ladd dX12_sum_69 ?_
            refine z_goto (tgt := 77) dX12_sum_70 (by decide) ?_
            obtain ⟨r26, S25, k27, hf⟩ := zb_some hf
            refine z_callSi dX12_sum_77 tM_12_171 (by decide) mt_12032 (Nat.le_of_ble_eq_true rfl) rfl rfl (ia_oks_le hn1 rfl) (Nat.le_of_ble_eq_true rfl) (w_X12_within hn1 hn2 (d + 6) hE k27) (fun h hE => ?_)
            refine z_istore_n (lv' := [(1, .int r26), (3, .long (r19.toInt64)), (2, .int q16), (0, .ref 41)]) dX12_sum_80 (by decide) rfl ?_
            refine z_goto (tgt := 5) dX12_sum_81 (by decide) ?_
            exact zW.sub (ih r26 S25 _ hE hf) [3, 0] rfl rfl rfl rfl
        by_cases c14 : ¬ r12 = 43
        · have hf := zif_t hf c14
          refine z_icmp_ne_t (tgt := 44) dX12_sum_37 (by decide) c14 ?_
          refine z_iconst (v := 0) dX12_sum_44 (by decide) ?_
          exact zW.sub (hJ15 0 _ hE hf) [0, 1] rfl rfl rfl rfl
        · have hf := zif_f hf c14
          refine z_icmp_ne_f (tgt := 44) dX12_sum_37 (by decide) c14 ?_
          refine z_iconst (v := 1) dX12_sum_40 (by decide) ?_
          refine z_goto (tgt := 45) dX12_sum_41 (by decide) ?_
          exact zW.sub (hJ15 1 _ hE hf) [0, 1] rfl rfl rfl rfl
      by_cases c8 : r6 = 43
      · have hf := zif_t hf c8
        refine z_icmp_eq_t (tgt := 31) dX12_sum_19 (by decide) c8 ?_
        exact zW.sub (hJ9 S5 _ hE hf) [0, 1] rfl rfl rfl rfl
      · have hf := zif_f hf c8
        refine z_icmp_eq_f (tgt := 31) dX12_sum_19 (by decide) c8 ?_
        refine z_aload_n dX12_sum_22 rfl ?_
        obtain ⟨r29, S28, k30, hf⟩ := zb_some hf
        refine z_callVi dX12_sum_23 tM_12_135 mt_12011 (Nat.le_of_ble_eq_true rfl) rfl rfl (z_recv hE dr_41 rfl) rfl (ia_oks_le hn1 rfl) (Nat.le_of_ble_eq_true rfl) (w_X12_look hn1 hn2 (d + 6) hE k30) (fun h hE => ?_)
        refine z_bipush (v := 45) dX12_sum_26 (by decide) ?_
        by_cases c31 : ¬ r29 = 45
        · have hf := zif_t hf c31
          refine z_icmp_ne_t (tgt := 84) dX12_sum_28 (by decide) c31 ?_
          exact zW.sub (hex x1 S28 _ hE hf) [0, 1] rfl rfl rfl rfl
        · have hf := zif_f hf c31
          refine z_icmp_ne_f (tgt := 84) dX12_sum_28 (by decide) c31 ?_
          exact zW.sub (hJ9 S28 _ hE hf) [0, 1] rfl rfl rfl rfl
theorem w_X12_sum_o {L : Nat} {xs : Nat → Int32} {fm : Bool} {h0 : Nat → va_E} {t : Nat × Nat × Nat} (hn1 : 64 ≤ t.1) (hn2 : t.1 ≤ 1000000) (d : Nat) {hub : zS → Option (Int32 × zS)} (hh : ∀ (h : Nat → va_E) (S : zS) (R : Int32 × zS), zE zDr h0 S (h, t) → hub  S = some R → zC (ia_P0 L xs fm) (d + 5) 12028 [.ref 41] (h, t) (zQi zDr h0 t R)) {h : Nat → va_E} {S : zS} (hE : zE zDr h0 S (h, t)) {R : Int32 × zS} (hf : f_X12_sum_o hub S = some R) : zC (ia_P0 L xs fm) (d + 8) 12028 [.ref 41] (h, t) (zQi zDr h0 t R) := by
  refine zC_of mt_12028 nn_12028 (Nat.le_of_ble_eq_true rfl) ?_
  refine zW_lv (lv' := [(0, .ref 41)]) rfl ?_
  unfold f_X12_sum_o at hf
  refine z_aload_n dX12_sum_0 rfl ?_
  obtain ⟨r2, S1, k3, hf⟩ := zb_some hf
  refine z_callVi dX12_sum_1 tM_12_175 mt_12029 (Nat.le_of_ble_eq_true rfl) rfl rfl (z_recv hE dr_41 rfl) rfl (ia_oks_le hn1 rfl) (Nat.le_of_ble_eq_true rfl) (w_X12_term_o hn1 hn2 (d + 0) (fun  h S R hE hk => (hh  h S R hE hk).mono (by omega)) hE k3) (fun h hE => ?_)
  refine z_istore_n (lv' := [(1, .int r2), (0, .ref 41)]) dX12_sum_4 (by decide) rfl ?_
  refine zW.sub (w_X12_sum_o_L5 hn1 hn2 d hh (fun q33 S32 h hE hf => ?_) zN r2 S1 h hE hf) [1, 0] rfl rfl rfl rfl
  try dsimp only at hf
  refine z_iload_n dX12_sum_84 rfl ?_
  have e_ := Option.some.inj hf
  subst e_
  exact z_ireturn dX12_sum_85 rfl ⟨h, rfl, rfl, hE⟩
def f_X12_sum_g : Nat → zS → Option (Int32 × zS)
  | 0 => fun _ => none
  | g + 1 => f_X12_sum_o (f_X12_sum_g g)
theorem w_X12_sum_g {L : Nat} {xs : Nat → Int32} {fm : Bool} {h0 : Nat → va_E} {t : Nat × Nat × Nat} (hn1 : 64 ≤ t.1) (hn2 : t.1 ≤ 1000000) (d : Nat) : ∀ g : Nat, ∀ (h : Nat → va_E) (S : zS) (R : Int32 × zS), zE zDr h0 S (h, t) → f_X12_sum_g g  S = some R → zC (ia_P0 L xs fm) (d + 3 * g + 5) 12028 [.ref 41] (h, t) (zQi zDr h0 t R) := by
  intro g
  induction g with
  | zero => intro  h S R hE hf; cases hf
  | succ g ih => intro  h S R hE hf; exact (w_X12_sum_o hn1 hn2 (d + 3 * g) ih hE hf).mono (by omega)
def f_X12_sum  (S : zS) : Option (Int32 × zS) := f_X12_sum_o (f_X12_sum_g 16)  S
theorem w_X12_sum {L : Nat} {xs : Nat → Int32} {fm : Bool} {h0 : Nat → va_E} {t : Nat × Nat × Nat} (hn1 : 64 ≤ t.1) (hn2 : t.1 ≤ 1000000) (d : Nat) {h : Nat → va_E} {S : zS} (hE : zE zDr h0 S (h, t)) {R : Int32 × zS} (hf : f_X12_sum  S = some R) : zC (ia_P0 L xs fm) (d + 56) 12028 [.ref 41] (h, t) (zQi zDr h0 t R) :=
  (w_X12_sum_o hn1 hn2 (d + 3 * 16) (w_X12_sum_g hn1 hn2 d 16) hE hf).mono (by omega)
def f_X12_isSign (v0 : Int32) (S : zS) : Option (Int32 × zS) :=
zl (fun (u3 : Unit) =>
some (1, S)) fun J2 =>
if v0 = 61 then
J2 ()
else
if v0 = 60 then
J2 ()
else
if ¬ v0 = 62 then
some (0, S)
else
J2 ()
theorem w_X12_isSign {L : Nat} {xs : Nat → Int32} {fm : Bool} {h0 : Nat → va_E} {t : Nat × Nat × Nat} (hn1 : 64 ≤ t.1) (hn2 : t.1 ≤ 1000000) (d : Nat) {h : Nat → va_E} {S : zS} (hE : zE zDr h0 S (h, t)) {v0 : Int32} {R : Int32 × zS} (hf : f_X12_isSign v0 S = some R) : zC (ia_P0 L xs fm) (d + 1) 12033 [.int v0] (h, t) (zQi zDr h0 t R) := by
  refine zC_of mt_12033 nn_12033 (Nat.le_of_ble_eq_true rfl) ?_
  refine zW_lv (lv' := [(0, .int v0)]) rfl ?_
  unfold f_X12_isSign at hf
  refine z_iload_n dX12_isSign_0 rfl ?_
  refine z_bipush (v := 61) dX12_isSign_1 (by decide) ?_
  obtain ⟨J2, eJ2, hf⟩ := zl_some hf
  have hJ2 : ∀ (u3 : Unit) (h : Nat → va_E), zE zDr h0 S (h, t) → J2 u3 = some R → zW (ia_P0 L xs fm) ia_nx (d + 0) 12 false cX12_isSign 1 (some .boolean) 18 [(0, .int v0)] [] (h, t) (zQi zDr h0 t R) := by
    intro u3 h hE hf
    rw [eJ2] at hf
    refine z_iconst (v := 1) dX12_isSign_18 (by decide) ?_
    refine z_goto (tgt := 23) dX12_isSign_19 (by decide) ?_
    have e_ := Option.some.inj hf
    subst e_
    exact z_zreturn dX12_isSign_23 rfl (by decide) ⟨h, rfl, rfl, hE⟩
  by_cases c1 : v0 = 61
  · have hf := zif_t hf c1
    refine z_icmp_eq_t (tgt := 18) dX12_isSign_3 (by decide) c1 ?_
    exact zW.sub (hJ2 () _ hE hf) [0] rfl rfl rfl rfl
  · have hf := zif_f hf c1
    refine z_icmp_eq_f (tgt := 18) dX12_isSign_3 (by decide) c1 ?_
    refine z_iload_n dX12_isSign_6 rfl ?_
    refine z_bipush (v := 60) dX12_isSign_7 (by decide) ?_
    by_cases c4 : v0 = 60
    · have hf := zif_t hf c4
      refine z_icmp_eq_t (tgt := 18) dX12_isSign_9 (by decide) c4 ?_
      exact zW.sub (hJ2 () _ hE hf) [0] rfl rfl rfl rfl
    · have hf := zif_f hf c4
      refine z_icmp_eq_f (tgt := 18) dX12_isSign_9 (by decide) c4 ?_
      refine z_iload_n dX12_isSign_12 rfl ?_
      refine z_bipush (v := 62) dX12_isSign_13 (by decide) ?_
      by_cases c5 : ¬ v0 = 62
      · have hf := zif_t hf c5
        refine z_icmp_ne_t (tgt := 22) dX12_isSign_15 (by decide) c5 ?_
        refine z_iconst (v := 0) dX12_isSign_22 (by decide) ?_
        have e_ := Option.some.inj hf
        subst e_
        exact z_zreturn dX12_isSign_23 rfl (by decide) ⟨h, rfl, rfl, hE⟩
      · have hf := zif_f hf c5
        refine z_icmp_ne_f (tgt := 22) dX12_isSign_15 (by decide) c5 ?_
        exact zW.sub (hJ2 () _ hE hf) [0] rfl rfl rfl rfl
def f_X12_compares (v1 : Int32) (v2 : Int32) (S : zS) : Option (Int32 × zS) :=
zl (fun (q4 : Int32) (S3 : zS) =>
if (S3.1 41 11) = (-1) then
zb (f_X12_look S3) fun r7 S6 =>
zb (f_X12_isSign r7 S6) fun r10 S9 =>
if ¬ r10 = 0 then
zl (sV S9 41 10 ((S9.1 41 10) + 1)) fun S13 =>
zb (f_X12_sum S13) fun r15 S14 =>
if ¬ r7 = 61 then
if ¬ r7 = 60 then
if q4 ≤ r15 then
some (0, S14)
else
some (1, S14)
else
if r15 ≤ q4 then
some (0, S14)
else
some (1, S14)
else
if ¬ q4 = r15 then
some (0, S14)
else
some (1, S14)
else
zb (f_X12_fails S9) fun r23 S22 =>
if r23 = 0 ∨ r23 = 1 then some (r23, S22) else none
else
some (0, S3)) fun J2 =>
if v1 = 0 then
zb (f_X12_sum S) fun r27 S26 =>
J2 r27 S26
else
J2 v2 S
theorem w_X12_compares {L : Nat} {xs : Nat → Int32} {fm : Bool} {h0 : Nat → va_E} {t : Nat × Nat × Nat} (hn1 : 64 ≤ t.1) (hn2 : t.1 ≤ 1000000) (d : Nat) {h : Nat → va_E} {S : zS} (hE : zE zDr h0 S (h, t)) {v1 : Int32} {v2 : Int32} {R : Int32 × zS} (hf : f_X12_compares v1 v2 S = some R) : zC (ia_P0 L xs fm) (d + 57) 12027 [.ref 41, .int v1, .int v2] (h, t) (zQi zDr h0 t R) := by
  refine zC_of mt_12027 nn_12027 (Nat.le_of_ble_eq_true rfl) ?_
  refine zW_lv (lv' := [(0, .ref 41), (1, .int v1), (2, .int v2)]) rfl ?_
  unfold f_X12_compares at hf
  refine z_iload_n dX12_compares_0 rfl ?_
  obtain ⟨J2, eJ2, hf⟩ := zl_some hf
  have hJ2 : ∀ (q4 : Int32) (S3 : zS) (h : Nat → va_E), zE zDr h0 S3 (h, t) → J2 q4 S3 = some R → zW (ia_P0 L xs fm) ia_nx (d + 56) 12 false cX12_compares 6 (some .boolean) 12 [(0, .ref 41), (1, .int v1), (2, .int v2)] [.int q4] (h, t) (zQi zDr h0 t R) := by
    intro q4 S3 h hE hf
    rw [eJ2] at hf
    refine z_istore_n (lv' := [(3, .int q4), (0, .ref 41), (1, .int v1), (2, .int v2)]) dX12_compares_12 (by decide) rfl ?_
    refine z_aload_n dX12_compares_13 rfl ?_
    refine z_getI dX12_compares_14 tF_12_125 hE dr_41 rfl rfl ?_
    refine z_iconst (v := (-1)) dX12_compares_17 (by decide) ?_
    by_cases c5 : (S3.1 41 11) = (-1)
    · have hf := zif_t hf c5
      refine z_icmp_eq_t (tgt := 23) dX12_compares_18 (by decide) c5 ?_
      refine z_aload_n dX12_compares_23 rfl ?_
      obtain ⟨r7, S6, k8, hf⟩ := zb_some hf
      refine z_callVi dX12_compares_24 tM_12_135 mt_12011 (Nat.le_of_ble_eq_true rfl) rfl rfl (z_recv hE dr_41 rfl) rfl (ia_oks_le hn1 rfl) (Nat.le_of_ble_eq_true rfl) (w_X12_look hn1 hn2 (d + 55) hE k8) (fun h hE => ?_)
      refine z_istore (lv' := [(4, .int r7), (3, .int q4), (0, .ref 41), (1, .int v1), (2, .int v2)]) dX12_compares_27 (by decide) rfl ?_
      refine z_iload dX12_compares_29 rfl ?_
      obtain ⟨r10, S9, k11, hf⟩ := zb_some hf
      refine z_callSi dX12_compares_31 tM_12_178 (by decide) mt_12033 (Nat.le_of_ble_eq_true rfl) rfl rfl (ia_oks_le hn1 rfl) (Nat.le_of_ble_eq_true rfl) (w_X12_isSign hn1 hn2 (d + 55) hE k11) (fun h hE => ?_)
      by_cases c12 : ¬ r10 = 0
      · have hf := zif_t hf c12
        refine z_if_ne_t (tgt := 42) dX12_compares_34 (by decide) c12 ?_
        refine z_aload_n dX12_compares_42 rfl ?_
        refine z_dup dX12_compares_43 rfl ?_
        refine z_getI dX12_compares_44 tF_12_116 hE dr_41 rfl rfl ?_
        refine z_iconst (v := 1) dX12_compares_47 (by decide) ?_
        refine z_iadd dX12_compares_48 ?_
        obtain ⟨S13, eS13, hf⟩ := zl_some hf
        refine z_putI dX12_compares_49 tF_12_116 hE dr_41 rfl rfl rfl rfl (fun h hE => ?_)
        rw [← eS13] at hE
        refine z_aload_n dX12_compares_52 rfl ?_
        obtain ⟨r15, S14, k16, hf⟩ := zb_some hf
        refine z_callVi dX12_compares_53 tM_12_158 mt_12028 (Nat.le_of_ble_eq_true rfl) rfl rfl (z_recv hE dr_41 rfl) rfl (ia_oks_le hn1 rfl) (Nat.le_of_ble_eq_true rfl) (w_X12_sum hn1 hn2 (d + 0) hE k16) (fun h hE => ?_)
        refine z_istore (lv' := [(5, .int r15), (4, .int r7), (3, .int q4), (0, .ref 41), (1, .int v1), (2, .int v2)]) dX12_compares_56 (by decide) rfl ?_
        refine z_iload dX12_compares_58 rfl ?_
        refine z_bipush (v := 61) dX12_compares_60 (by decide) ?_
        by_cases c17 : ¬ r7 = 61
        · have hf := zif_t hf c17
          refine z_icmp_ne_t (tgt := 79) dX12_compares_62 (by decide) c17 ?_
          refine z_iload dX12_compares_79 rfl ?_
          refine z_bipush (v := 60) dX12_compares_81 (by decide) ?_
          by_cases c18 : ¬ r7 = 60
          · have hf := zif_t hf c18
            refine z_icmp_ne_t (tgt := 100) dX12_compares_83 (by decide) c18 ?_
            refine z_iload_n dX12_compares_100 rfl ?_
            refine z_iload dX12_compares_101 rfl ?_
            by_cases c19 : q4 ≤ r15
            · have hf := zif_t hf c19
              refine z_icmp_le_t (tgt := 110) dX12_compares_103 (by decide) c19 ?_
              refine z_iconst (v := 0) dX12_compares_110 (by decide) ?_
              have e_ := Option.some.inj hf
              subst e_
              exact z_zreturn dX12_compares_111 rfl (by decide) ⟨h, rfl, rfl, hE⟩
            · have hf := zif_f hf c19
              refine z_icmp_le_f (tgt := 110) dX12_compares_103 (by decide) c19 ?_
              refine z_iconst (v := 1) dX12_compares_106 (by decide) ?_
              refine z_goto (tgt := 111) dX12_compares_107 (by decide) ?_
              have e_ := Option.some.inj hf
              subst e_
              exact z_zreturn dX12_compares_111 rfl (by decide) ⟨h, rfl, rfl, hE⟩
          · have hf := zif_f hf c18
            refine z_icmp_ne_f (tgt := 100) dX12_compares_83 (by decide) c18 ?_
            refine z_iload_n dX12_compares_86 rfl ?_
            refine z_iload dX12_compares_87 rfl ?_
            by_cases c20 : r15 ≤ q4
            · have hf := zif_t hf c20
              refine z_icmp_ge_t (tgt := 96) dX12_compares_89 (by decide) c20 ?_
              refine z_iconst (v := 0) dX12_compares_96 (by decide) ?_
              refine z_goto (tgt := 111) dX12_compares_97 (by decide) ?_
              have e_ := Option.some.inj hf
              subst e_
              exact z_zreturn dX12_compares_111 rfl (by decide) ⟨h, rfl, rfl, hE⟩
            · have hf := zif_f hf c20
              refine z_icmp_ge_f (tgt := 96) dX12_compares_89 (by decide) c20 ?_
              refine z_iconst (v := 1) dX12_compares_92 (by decide) ?_
              refine z_goto (tgt := 111) dX12_compares_93 (by decide) ?_
              have e_ := Option.some.inj hf
              subst e_
              exact z_zreturn dX12_compares_111 rfl (by decide) ⟨h, rfl, rfl, hE⟩
        · have hf := zif_f hf c17
          refine z_icmp_ne_f (tgt := 79) dX12_compares_62 (by decide) c17 ?_
          refine z_iload_n dX12_compares_65 rfl ?_
          refine z_iload dX12_compares_66 rfl ?_
          by_cases c21 : ¬ q4 = r15
          · have hf := zif_t hf c21
            refine z_icmp_ne_t (tgt := 75) dX12_compares_68 (by decide) c21 ?_
            refine z_iconst (v := 0) dX12_compares_75 (by decide) ?_
            refine z_goto (tgt := 111) dX12_compares_76 (by decide) ?_
            have e_ := Option.some.inj hf
            subst e_
            exact z_zreturn dX12_compares_111 rfl (by decide) ⟨h, rfl, rfl, hE⟩
          · have hf := zif_f hf c21
            refine z_icmp_ne_f (tgt := 75) dX12_compares_68 (by decide) c21 ?_
            refine z_iconst (v := 1) dX12_compares_71 (by decide) ?_
            refine z_goto (tgt := 111) dX12_compares_72 (by decide) ?_
            have e_ := Option.some.inj hf
            subst e_
            exact z_zreturn dX12_compares_111 rfl (by decide) ⟨h, rfl, rfl, hE⟩
      · have hf := zif_f hf c12
        refine z_if_ne_f (tgt := 42) dX12_compares_34 (by decide) c12 ?_
        refine z_aload_n dX12_compares_37 rfl ?_
        obtain ⟨r23, S22, k24, hf⟩ := zb_some hf
        refine z_callVi dX12_compares_38 tM_12_131 mt_12012 (Nat.le_of_ble_eq_true rfl) rfl rfl (z_recv hE dr_41 rfl) rfl (ia_oks_le hn1 rfl) (Nat.le_of_ble_eq_true rfl) (w_X12_fails hn1 hn2 (d + 55) hE k24) (fun h hE => ?_)
        obtain ⟨b25, hf⟩ := zchk hf
        have e_ := Option.some.inj hf
        subst e_
        exact z_zreturn dX12_compares_41 rfl b25 ⟨h, rfl, rfl, hE⟩
    · have hf := zif_f hf c5
      refine z_icmp_eq_f (tgt := 23) dX12_compares_18 (by decide) c5 ?_
      refine z_iconst (v := 0) dX12_compares_21 (by decide) ?_
      have e_ := Option.some.inj hf
      subst e_
      exact z_zreturn dX12_compares_22 rfl (by decide) ⟨h, rfl, rfl, hE⟩
  by_cases c1 : v1 = 0
  · have hf := zif_t hf c1
    refine z_if_eq_t (tgt := 8) dX12_compares_1 (by decide) c1 ?_
    refine z_aload_n dX12_compares_8 rfl ?_
    obtain ⟨r27, S26, k28, hf⟩ := zb_some hf
    refine z_callVi dX12_compares_9 tM_12_158 mt_12028 (Nat.le_of_ble_eq_true rfl) rfl rfl (z_recv hE dr_41 rfl) rfl (ia_oks_le hn1 rfl) (Nat.le_of_ble_eq_true rfl) (w_X12_sum hn1 hn2 (d + 0) hE k28) (fun h hE => ?_)
    exact zW.sub (hJ2 r27 S26 _ hE hf) [0, 1, 2] rfl rfl rfl rfl
  · have hf := zif_f hf c1
    refine z_if_eq_f (tgt := 8) dX12_compares_1 (by decide) c1 ?_
    refine z_iload_n dX12_compares_4 rfl ?_
    refine z_goto (tgt := 12) dX12_compares_5 (by decide) ?_
    exact zW.sub (hJ2 v2 S _ hE hf) [0, 1, 2] rfl rfl rfl rfl
def f_X12_part_o_L18 (hub : zS → Option (Int32 × zS)) (ex : Int32 → zS → Option (Int32 × zS)) (i1 : Int32) (i2 : Int32) : Nat → Int32 → zS → Option (Int32 × zS)
  | 0, _, _ => none
  | k + 1, x3, S =>
    if ¬ (S.1 41 11) = (-1) then
    ex x3 S
    else
    zb (f_X12_look S) fun r7 S6 =>
    if ¬ r7 = 38 then
    ex x3 S6
    else
    zl (sV S6 41 10 ((S6.1 41 10) + 1)) fun S10 =>
    zb (hub S10) fun r12 S11 =>
    zl (fun (u16 : Unit) =>
    f_X12_part_o_L18 hub ex i1 i2 k 0 S11) fun J15 =>
    if x3 = 0 then
    J15 ()
    else
    if r12 = 0 then
    J15 ()
    else
    f_X12_part_o_L18 hub ex i1 i2 k 1 S11
def f_X12_part_o (hub : zS → Option (Int32 × zS)) (v1 : Int32) (v2 : Int32) (S : zS) : Option (Int32 × zS) :=
zl (fun (q4 : Int32) (S3 : zS) =>
f_X12_part_o_L18 hub (fun (q19 : Int32) (S18 : zS) =>
if q19 = 0 ∨ q19 = 1 then some (q19, S18) else none) v1 v2 zN q4 S3) fun J2 =>
if v1 = 0 then
zb (hub S) fun r22 S21 =>
J2 r22 S21
else
zb (f_X12_compares 1 v2 S) fun r25 S24 =>
J2 r25 S24
theorem w_X12_part_o_L18 {L : Nat} {xs : Nat → Int32} {fm : Bool} {h0 : Nat → va_E} {t : Nat × Nat × Nat} (hn1 : 64 ≤ t.1) (hn2 : t.1 ≤ 1000000) (d : Nat) {hub : zS → Option (Int32 × zS)} (hh : ∀ (h : Nat → va_E) (S : zS) (R : Int32 × zS), zE zDr h0 S (h, t) → hub  S = some R → zC (ia_P0 L xs fm) (d + 57) 12034 [.ref 41] (h, t) (zQi zDr h0 t R)) {ex : Int32 → zS → Option (Int32 × zS)} {i1 : Int32} {i2 : Int32} {R : Int32 × zS} (hex : ∀ (x3 : Int32) (S : zS) (h : Nat → va_E), zE zDr h0 S (h, t) → ex x3 S = some R → zW (ia_P0 L xs fm) ia_nx (d + 57) 12 false cX12_part 5 (some .boolean) 69 [(0, .ref 41), (1, .int i1), (2, .int i2), (3, .int x3)] [] (h, t) (zQi zDr h0 t R)) : ∀ (k : Nat) (x3 : Int32) (S : zS) (h : Nat → va_E), zE zDr h0 S (h, t) → f_X12_part_o_L18 hub ex i1 i2 k x3 S = some R → zW (ia_P0 L xs fm) ia_nx (d + 57) 12 false cX12_part 5 (some .boolean) 18 [(0, .ref 41), (1, .int i1), (2, .int i2), (3, .int x3)] [] (h, t) (zQi zDr h0 t R) := by
  intro k
  induction k with
  | zero => intro x3 S h hE hf; cases hf
  | succ k ih =>
    intro x3 S h hE hf
    unfold f_X12_part_o_L18 at hf
    refine z_aload_n dX12_part_18 rfl ?_
    refine z_getI dX12_part_19 tF_12_125 hE dr_41 rfl rfl ?_
    refine z_iconst (v := (-1)) dX12_part_22 (by decide) ?_
    by_cases c5 : ¬ (S.1 41 11) = (-1)
    · have hf := zif_t hf c5
      refine z_icmp_ne_t (tgt := 69) dX12_part_23 (by decide) c5 ?_
      exact zW.sub (hex x3 S _ hE hf) [0, 1, 2, 3] rfl rfl rfl rfl
    · have hf := zif_f hf c5
      refine z_icmp_ne_f (tgt := 69) dX12_part_23 (by decide) c5 ?_
      refine z_aload_n dX12_part_26 rfl ?_
      obtain ⟨r7, S6, k8, hf⟩ := zb_some hf
      refine z_callVi dX12_part_27 tM_12_135 mt_12011 (Nat.le_of_ble_eq_true rfl) rfl rfl (z_recv hE dr_41 rfl) rfl (ia_oks_le hn1 rfl) (Nat.le_of_ble_eq_true rfl) (w_X12_look hn1 hn2 (d + 56) hE k8) (fun h hE => ?_)
      refine z_bipush (v := 38) dX12_part_30 (by decide) ?_
      by_cases c9 : ¬ r7 = 38
      · have hf := zif_t hf c9
        refine z_icmp_ne_t (tgt := 69) dX12_part_32 (by decide) c9 ?_
        exact zW.sub (hex x3 S6 _ hE hf) [0, 1, 2, 3] rfl rfl rfl rfl
      · have hf := zif_f hf c9
        refine z_icmp_ne_f (tgt := 69) dX12_part_32 (by decide) c9 ?_
        refine z_aload_n dX12_part_35 rfl ?_
        refine z_dup dX12_part_36 rfl ?_
        refine z_getI dX12_part_37 tF_12_116 hE dr_41 rfl rfl ?_
        refine z_iconst (v := 1) dX12_part_40 (by decide) ?_
        refine z_iadd dX12_part_41 ?_
        obtain ⟨S10, eS10, hf⟩ := zl_some hf
        refine z_putI dX12_part_42 tF_12_116 hE dr_41 rfl rfl rfl rfl (fun h hE => ?_)
        rw [← eS10] at hE
        refine z_aload_n dX12_part_45 rfl ?_
        obtain ⟨r12, S11, k13, hf⟩ := zb_some hf
        refine z_callVi dX12_part_46 tM_12_181 mt_12034 (Nat.le_of_ble_eq_true rfl) rfl rfl (z_recv hE dr_41 rfl) rfl (ia_oks_le hn1 rfl) (Nat.le_of_ble_eq_true rfl) ((hh  h S10 _ hE k13).mono (by omega)) (fun h hE => ?_)
        refine z_istore (lv' := [(4, .int r12), (0, .ref 41), (1, .int i1), (2, .int i2), (3, .int x3)]) dX12_part_49 (by decide) rfl ?_
        refine z_iload_n dX12_part_51 rfl ?_
        obtain ⟨J15, eJ15, hf⟩ := zl_some hf
        have hJ15 : ∀ (u16 : Unit) (h : Nat → va_E), zE zDr h0 S11 (h, t) → J15 u16 = some R → zW (ia_P0 L xs fm) ia_nx (d + 57) 12 false cX12_part 5 (some .boolean) 64 [(0, .ref 41), (1, .int i1), (2, .int i2), (3, .int x3), (4, .int r12)] [] (h, t) (zQi zDr h0 t R) := by
          intro u16 h hE hf
          rw [eJ15] at hf
          refine z_iconst (v := 0) dX12_part_64 (by decide) ?_
          refine z_istore_n (lv' := [(3, .int 0), (0, .ref 41), (1, .int i1), (2, .int i2), (4, .int r12)]) dX12_part_65 (by decide) rfl ?_
          refine z_goto (tgt := 18) dX12_part_66 (by decide) ?_
          exact zW.sub (ih 0 S11 _ hE hf) [1, 2, 3, 0] rfl rfl rfl rfl
        by_cases c14 : x3 = 0
        · have hf := zif_t hf c14
          refine z_if_eq_t (tgt := 64) dX12_part_52 (by decide) c14 ?_
          exact zW.sub (hJ15 () _ hE hf) [1, 2, 3, 4, 0] rfl rfl rfl rfl
        · have hf := zif_f hf c14
          refine z_if_eq_f (tgt := 64) dX12_part_52 (by decide) c14 ?_
          refine z_iload dX12_part_55 rfl ?_
          by_cases c17 : r12 = 0
          · have hf := zif_t hf c17
            refine z_if_eq_t (tgt := 64) dX12_part_57 (by decide) c17 ?_
            exact zW.sub (hJ15 () _ hE hf) [1, 2, 3, 4, 0] rfl rfl rfl rfl
          · have hf := zif_f hf c17
            refine z_if_eq_f (tgt := 64) dX12_part_57 (by decide) c17 ?_
            refine z_iconst (v := 1) dX12_part_60 (by decide) ?_
            refine z_goto (tgt := 65) dX12_part_61 (by decide) ?_
            refine z_istore_n (lv' := [(3, .int 1), (4, .int r12), (0, .ref 41), (1, .int i1), (2, .int i2)]) dX12_part_65 (by decide) rfl ?_
            refine z_goto (tgt := 18) dX12_part_66 (by decide) ?_
            exact zW.sub (ih 1 S11 _ hE hf) [2, 3, 4, 0] rfl rfl rfl rfl
theorem w_X12_part_o {L : Nat} {xs : Nat → Int32} {fm : Bool} {h0 : Nat → va_E} {t : Nat × Nat × Nat} (hn1 : 64 ≤ t.1) (hn2 : t.1 ≤ 1000000) (d : Nat) {hub : zS → Option (Int32 × zS)} (hh : ∀ (h : Nat → va_E) (S : zS) (R : Int32 × zS), zE zDr h0 S (h, t) → hub  S = some R → zC (ia_P0 L xs fm) (d + 57) 12034 [.ref 41] (h, t) (zQi zDr h0 t R)) {h : Nat → va_E} {S : zS} (hE : zE zDr h0 S (h, t)) {v1 : Int32} {v2 : Int32} {R : Int32 × zS} (hf : f_X12_part_o hub v1 v2 S = some R) : zC (ia_P0 L xs fm) (d + 58) 12026 [.ref 41, .int v1, .int v2] (h, t) (zQi zDr h0 t R) := by
  refine zC_of mt_12026 nn_12026 (Nat.le_of_ble_eq_true rfl) ?_
  refine zW_lv (lv' := [(0, .ref 41), (1, .int v1), (2, .int v2)]) rfl ?_
  unfold f_X12_part_o at hf
  refine z_iload_n dX12_part_0 rfl ?_
  obtain ⟨J2, eJ2, hf⟩ := zl_some hf
  have hJ2 : ∀ (q4 : Int32) (S3 : zS) (h : Nat → va_E), zE zDr h0 S3 (h, t) → J2 q4 S3 = some R → zW (ia_P0 L xs fm) ia_nx (d + 57) 12 false cX12_part 5 (some .boolean) 17 [(0, .ref 41), (1, .int v1), (2, .int v2)] [.int q4] (h, t) (zQi zDr h0 t R) := by
    intro q4 S3 h hE hf
    rw [eJ2] at hf
    refine z_istore_n (lv' := [(3, .int q4), (0, .ref 41), (1, .int v1), (2, .int v2)]) dX12_part_17 (by decide) rfl ?_
    refine zW.sub (w_X12_part_o_L18 hn1 hn2 d hh (fun q19 S18 h hE hf => ?_) zN q4 S3 h hE hf) [1, 2, 3, 0] rfl rfl rfl rfl
    try dsimp only at hf
    refine z_iload_n dX12_part_69 rfl ?_
    obtain ⟨b20, hf⟩ := zchk hf
    have e_ := Option.some.inj hf
    subst e_
    exact z_zreturn dX12_part_70 rfl b20 ⟨h, rfl, rfl, hE⟩
  by_cases c1 : v1 = 0
  · have hf := zif_t hf c1
    refine z_if_eq_t (tgt := 13) dX12_part_1 (by decide) c1 ?_
    refine z_aload_n dX12_part_13 rfl ?_
    obtain ⟨r22, S21, k23, hf⟩ := zb_some hf
    refine z_callVi dX12_part_14 tM_12_181 mt_12034 (Nat.le_of_ble_eq_true rfl) rfl rfl (z_recv hE dr_41 rfl) rfl (ia_oks_le hn1 rfl) (Nat.le_of_ble_eq_true rfl) ((hh  h S _ hE k23).mono (by omega)) (fun h hE => ?_)
    exact zW.sub (hJ2 r22 S21 _ hE hf) [0, 1, 2] rfl rfl rfl rfl
  · have hf := zif_f hf c1
    refine z_if_eq_f (tgt := 13) dX12_part_1 (by decide) c1 ?_
    refine z_aload_n dX12_part_4 rfl ?_
    refine z_iconst (v := 1) dX12_part_5 (by decide) ?_
    refine z_iload_n dX12_part_6 rfl ?_
    obtain ⟨r25, S24, k26, hf⟩ := zb_some hf
    refine z_callVi dX12_part_7 tM_12_188 mt_12027 (Nat.le_of_ble_eq_true rfl) rfl rfl (z_recv hE dr_41 rfl) rfl (ia_oks_le hn1 rfl) (Nat.le_of_ble_eq_true rfl) (w_X12_compares hn1 hn2 (d + 0) hE k26) (fun h hE => ?_)
    refine z_goto (tgt := 17) dX12_part_10 (by decide) ?_
    exact zW.sub (hJ2 r25 S24 _ hE hf) [0, 1, 2] rfl rfl rfl rfl
def f_X12_condition_o_L7 (hub : zS → Option (Int32 × zS)) (ex : Int32 → zS → Option (Int32 × zS)) (i1 : Int32) (i2 : Int32) : Nat → Int32 → zS → Option (Int32 × zS)
  | 0, _, _ => none
  | k + 1, x3, S =>
    if ¬ (S.1 41 11) = (-1) then
    ex x3 S
    else
    zb (f_X12_look S) fun r6 S5 =>
    if ¬ r6 = 124 then
    ex x3 S5
    else
    zl (sV S5 41 10 ((S5.1 41 10) + 1)) fun S9 =>
    zb (f_X12_part_o hub 0 0 S9) fun r11 S10 =>
    zl (fun (u15 : Unit) =>
    f_X12_condition_o_L7 hub ex i1 i2 k 1 S10) fun J14 =>
    if ¬ x3 = 0 then
    J14 ()
    else
    if r11 = 0 then
    f_X12_condition_o_L7 hub ex i1 i2 k 0 S10
    else
    J14 ()
def f_X12_condition_o (hub : zS → Option (Int32 × zS)) (v1 : Int32) (v2 : Int32) (S : zS) : Option (Int32 × zS) :=
zb (f_X12_part_o hub v1 v2 S) fun r2 S1 =>
f_X12_condition_o_L7 hub (fun (q18 : Int32) (S17 : zS) =>
if q18 = 0 ∨ q18 = 1 then some (q18, S17) else none) v1 v2 zN r2 S1
theorem w_X12_condition_o_L7 {L : Nat} {xs : Nat → Int32} {fm : Bool} {h0 : Nat → va_E} {t : Nat × Nat × Nat} (hn1 : 64 ≤ t.1) (hn2 : t.1 ≤ 1000000) (d : Nat) {hub : zS → Option (Int32 × zS)} (hh : ∀ (h : Nat → va_E) (S : zS) (R : Int32 × zS), zE zDr h0 S (h, t) → hub  S = some R → zC (ia_P0 L xs fm) (d + 57) 12034 [.ref 41] (h, t) (zQi zDr h0 t R)) {ex : Int32 → zS → Option (Int32 × zS)} {i1 : Int32} {i2 : Int32} {R : Int32 × zS} (hex : ∀ (x3 : Int32) (S : zS) (h : Nat → va_E), zE zDr h0 S (h, t) → ex x3 S = some R → zW (ia_P0 L xs fm) ia_nx (d + 58) 12 false cX12_condition 5 (some .boolean) 60 [(0, .ref 41), (1, .int i1), (2, .int i2), (3, .int x3)] [] (h, t) (zQi zDr h0 t R)) : ∀ (k : Nat) (x3 : Int32) (S : zS) (h : Nat → va_E), zE zDr h0 S (h, t) → f_X12_condition_o_L7 hub ex i1 i2 k x3 S = some R → zW (ia_P0 L xs fm) ia_nx (d + 58) 12 false cX12_condition 5 (some .boolean) 7 [(0, .ref 41), (1, .int i1), (2, .int i2), (3, .int x3)] [] (h, t) (zQi zDr h0 t R) := by
  intro k
  induction k with
  | zero => intro x3 S h hE hf; cases hf
  | succ k ih =>
    intro x3 S h hE hf
    unfold f_X12_condition_o_L7 at hf
    refine z_aload_n dX12_condition_7 rfl ?_
    refine z_getI dX12_condition_8 tF_12_125 hE dr_41 rfl rfl ?_
    refine z_iconst (v := (-1)) dX12_condition_11 (by decide) ?_
    by_cases c4 : ¬ (S.1 41 11) = (-1)
    · have hf := zif_t hf c4
      refine z_icmp_ne_t (tgt := 60) dX12_condition_12 (by decide) c4 ?_
      exact zW.sub (hex x3 S _ hE hf) [0, 1, 2, 3] rfl rfl rfl rfl
    · have hf := zif_f hf c4
      refine z_icmp_ne_f (tgt := 60) dX12_condition_12 (by decide) c4 ?_
      refine z_aload_n dX12_condition_15 rfl ?_
      obtain ⟨r6, S5, k7, hf⟩ := zb_some hf
      refine z_callVi dX12_condition_16 tM_12_135 mt_12011 (Nat.le_of_ble_eq_true rfl) rfl rfl (z_recv hE dr_41 rfl) rfl (ia_oks_le hn1 rfl) (Nat.le_of_ble_eq_true rfl) (w_X12_look hn1 hn2 (d + 57) hE k7) (fun h hE => ?_)
      refine z_bipush (v := 124) dX12_condition_19 (by decide) ?_
      by_cases c8 : ¬ r6 = 124
      · have hf := zif_t hf c8
        refine z_icmp_ne_t (tgt := 60) dX12_condition_21 (by decide) c8 ?_
        exact zW.sub (hex x3 S5 _ hE hf) [0, 1, 2, 3] rfl rfl rfl rfl
      · have hf := zif_f hf c8
        refine z_icmp_ne_f (tgt := 60) dX12_condition_21 (by decide) c8 ?_
        refine z_aload_n dX12_condition_24 rfl ?_
        refine z_dup dX12_condition_25 rfl ?_
        refine z_getI dX12_condition_26 tF_12_116 hE dr_41 rfl rfl ?_
        refine z_iconst (v := 1) dX12_condition_29 (by decide) ?_
        refine z_iadd dX12_condition_30 ?_
        obtain ⟨S9, eS9, hf⟩ := zl_some hf
        refine z_putI dX12_condition_31 tF_12_116 hE dr_41 rfl rfl rfl rfl (fun h hE => ?_)
        rw [← eS9] at hE
        refine z_aload_n dX12_condition_34 rfl ?_
        refine z_iconst (v := 0) dX12_condition_35 (by decide) ?_
        refine z_iconst (v := 0) dX12_condition_36 (by decide) ?_
        obtain ⟨r11, S10, k12, hf⟩ := zb_some hf
        refine z_callVi dX12_condition_37 tM_12_191 mt_12026 (Nat.le_of_ble_eq_true rfl) rfl rfl (z_recv hE dr_41 rfl) rfl (ia_oks_le hn1 rfl) (Nat.le_of_ble_eq_true rfl) (w_X12_part_o hn1 hn2 (d + 0) (fun  h S R hE hk => (hh  h S R hE hk).mono (by omega)) hE k12) (fun h hE => ?_)
        refine z_istore (lv' := [(4, .int r11), (0, .ref 41), (1, .int i1), (2, .int i2), (3, .int x3)]) dX12_condition_40 (by decide) rfl ?_
        refine z_iload_n dX12_condition_42 rfl ?_
        obtain ⟨J14, eJ14, hf⟩ := zl_some hf
        have hJ14 : ∀ (u15 : Unit) (h : Nat → va_E), zE zDr h0 S10 (h, t) → J14 u15 = some R → zW (ia_P0 L xs fm) ia_nx (d + 58) 12 false cX12_condition 5 (some .boolean) 51 [(0, .ref 41), (1, .int i1), (2, .int i2), (3, .int x3), (4, .int r11)] [] (h, t) (zQi zDr h0 t R) := by
          intro u15 h hE hf
          rw [eJ14] at hf
          refine z_iconst (v := 1) dX12_condition_51 (by decide) ?_
          refine z_goto (tgt := 56) dX12_condition_52 (by decide) ?_
          refine z_istore_n (lv' := [(3, .int 1), (0, .ref 41), (1, .int i1), (2, .int i2), (4, .int r11)]) dX12_condition_56 (by decide) rfl ?_
          refine z_goto (tgt := 7) dX12_condition_57 (by decide) ?_
          exact zW.sub (ih 1 S10 _ hE hf) [1, 2, 3, 0] rfl rfl rfl rfl
        by_cases c13 : ¬ x3 = 0
        · have hf := zif_t hf c13
          refine z_if_ne_t (tgt := 51) dX12_condition_43 (by decide) c13 ?_
          exact zW.sub (hJ14 () _ hE hf) [1, 2, 3, 4, 0] rfl rfl rfl rfl
        · have hf := zif_f hf c13
          refine z_if_ne_f (tgt := 51) dX12_condition_43 (by decide) c13 ?_
          refine z_iload dX12_condition_46 rfl ?_
          by_cases c16 : r11 = 0
          · have hf := zif_t hf c16
            refine z_if_eq_t (tgt := 55) dX12_condition_48 (by decide) c16 ?_
            refine z_iconst (v := 0) dX12_condition_55 (by decide) ?_
            refine z_istore_n (lv' := [(3, .int 0), (4, .int r11), (0, .ref 41), (1, .int i1), (2, .int i2)]) dX12_condition_56 (by decide) rfl ?_
            refine z_goto (tgt := 7) dX12_condition_57 (by decide) ?_
            exact zW.sub (ih 0 S10 _ hE hf) [2, 3, 4, 0] rfl rfl rfl rfl
          · have hf := zif_f hf c16
            refine z_if_eq_f (tgt := 55) dX12_condition_48 (by decide) c16 ?_
            exact zW.sub (hJ14 () _ hE hf) [1, 2, 3, 4, 0] rfl rfl rfl rfl
theorem w_X12_condition_o {L : Nat} {xs : Nat → Int32} {fm : Bool} {h0 : Nat → va_E} {t : Nat × Nat × Nat} (hn1 : 64 ≤ t.1) (hn2 : t.1 ≤ 1000000) (d : Nat) {hub : zS → Option (Int32 × zS)} (hh : ∀ (h : Nat → va_E) (S : zS) (R : Int32 × zS), zE zDr h0 S (h, t) → hub  S = some R → zC (ia_P0 L xs fm) (d + 57) 12034 [.ref 41] (h, t) (zQi zDr h0 t R)) {h : Nat → va_E} {S : zS} (hE : zE zDr h0 S (h, t)) {v1 : Int32} {v2 : Int32} {R : Int32 × zS} (hf : f_X12_condition_o hub v1 v2 S = some R) : zC (ia_P0 L xs fm) (d + 59) 12025 [.ref 41, .int v1, .int v2] (h, t) (zQi zDr h0 t R) := by
  refine zC_of mt_12025 nn_12025 (Nat.le_of_ble_eq_true rfl) ?_
  refine zW_lv (lv' := [(0, .ref 41), (1, .int v1), (2, .int v2)]) rfl ?_
  unfold f_X12_condition_o at hf
  refine z_aload_n dX12_condition_0 rfl ?_
  refine z_iload_n dX12_condition_1 rfl ?_
  refine z_iload_n dX12_condition_2 rfl ?_
  obtain ⟨r2, S1, k3, hf⟩ := zb_some hf
  refine z_callVi dX12_condition_3 tM_12_191 mt_12026 (Nat.le_of_ble_eq_true rfl) rfl rfl (z_recv hE dr_41 rfl) rfl (ia_oks_le hn1 rfl) (Nat.le_of_ble_eq_true rfl) (w_X12_part_o hn1 hn2 (d + 0) (fun  h S R hE hk => (hh  h S R hE hk).mono (by omega)) hE k3) (fun h hE => ?_)
  refine z_istore_n (lv' := [(3, .int r2), (0, .ref 41), (1, .int v1), (2, .int v2)]) dX12_condition_6 (by decide) rfl ?_
  refine zW.sub (w_X12_condition_o_L7 hn1 hn2 d hh (fun q18 S17 h hE hf => ?_) zN r2 S1 h hE hf) [1, 2, 3, 0] rfl rfl rfl rfl
  try dsimp only at hf
  refine z_iload_n dX12_condition_60 rfl ?_
  obtain ⟨b19, hf⟩ := zchk hf
  have e_ := Option.some.inj hf
  subst e_
  exact z_zreturn dX12_condition_61 rfl b19 ⟨h, rfl, rfl, hE⟩
def f_X12_unit_o (hub : zS → Option (Int32 × zS)) (S : zS) : Option (Int32 × zS) :=
zb (f_X12_look S) fun r2 S1 =>
if ¬ r2 = 33 then
if ¬ r2 = 40 then
zb (f_X12_compares 0 0 S1) fun r7 S6 =>
if r7 = 0 ∨ r7 = 1 then some (r7, S6) else none
else
zb (f_X12_goesIn S1) fun r11 S10 =>
if ¬ r11 = 0 then
zb (f_X12_condition_o hub 0 0 S10) fun r15 S14 =>
zb (f_X12_takes 41 S14) fun r18 S17 =>
if ¬ r18 = 0 then
zl (sV S17 41 12 ((S17.1 41 12) - 1)) fun S21 =>
if r15 = 0 ∨ r15 = 1 then some (r15, S21) else none
else
some (0, S17)
else
some (0, S10)
else
zb (f_X12_goesIn S1) fun r24 S23 =>
if ¬ r24 = 0 then
zb (hub S23) fun r28 S27 =>
zl (sV S27 41 12 ((S27.1 41 12) - 1)) fun S30 =>
if ¬ r28 = 0 then
some (0, S30)
else
some (1, S30)
else
some (0, S23)
theorem w_X12_unit_o {L : Nat} {xs : Nat → Int32} {fm : Bool} {h0 : Nat → va_E} {t : Nat × Nat × Nat} (hn1 : 64 ≤ t.1) (hn2 : t.1 ≤ 1000000) (d : Nat) {hub : zS → Option (Int32 × zS)} (hh : ∀ (h : Nat → va_E) (S : zS) (R : Int32 × zS), zE zDr h0 S (h, t) → hub  S = some R → zC (ia_P0 L xs fm) (d + 57) 12034 [.ref 41] (h, t) (zQi zDr h0 t R)) {h : Nat → va_E} {S : zS} (hE : zE zDr h0 S (h, t)) {R : Int32 × zS} (hf : f_X12_unit_o hub S = some R) : zC (ia_P0 L xs fm) (d + 60) 12034 [.ref 41] (h, t) (zQi zDr h0 t R) := by
  refine zC_of mt_12034 nn_12034 (Nat.le_of_ble_eq_true rfl) ?_
  refine zW_lv (lv' := [(0, .ref 41)]) rfl ?_
  unfold f_X12_unit_o at hf
  refine z_aload_n dX12_unit_0 rfl ?_
  obtain ⟨r2, S1, k3, hf⟩ := zb_some hf
  refine z_callVi dX12_unit_1 tM_12_135 mt_12011 (Nat.le_of_ble_eq_true rfl) rfl rfl (z_recv hE dr_41 rfl) rfl (ia_oks_le hn1 rfl) (Nat.le_of_ble_eq_true rfl) (w_X12_look hn1 hn2 (d + 58) hE k3) (fun h hE => ?_)
  refine z_istore_n (lv' := [(1, .int r2), (0, .ref 41)]) dX12_unit_4 (by decide) rfl ?_
  refine z_iload_n dX12_unit_5 rfl ?_
  refine z_bipush (v := 33) dX12_unit_6 (by decide) ?_
  by_cases c4 : ¬ r2 = 33
  · have hf := zif_t hf c4
    refine z_icmp_ne_t (tgt := 45) dX12_unit_8 (by decide) c4 ?_
    refine z_iload_n dX12_unit_45 rfl ?_
    refine z_bipush (v := 40) dX12_unit_46 (by decide) ?_
    by_cases c5 : ¬ r2 = 40
    · have hf := zif_t hf c5
      refine z_icmp_ne_t (tgt := 90) dX12_unit_48 (by decide) c5 ?_
      refine z_aload_n dX12_unit_90 rfl ?_
      refine z_iconst (v := 0) dX12_unit_91 (by decide) ?_
      refine z_iconst (v := 0) dX12_unit_92 (by decide) ?_
      obtain ⟨r7, S6, k8, hf⟩ := zb_some hf
      refine z_callVi dX12_unit_93 tM_12_188 mt_12027 (Nat.le_of_ble_eq_true rfl) rfl rfl (z_recv hE dr_41 rfl) rfl (ia_oks_le hn1 rfl) (Nat.le_of_ble_eq_true rfl) (w_X12_compares hn1 hn2 (d + 2) hE k8) (fun h hE => ?_)
      obtain ⟨b9, hf⟩ := zchk hf
      have e_ := Option.some.inj hf
      subst e_
      exact z_zreturn dX12_unit_96 rfl b9 ⟨h, rfl, rfl, hE⟩
    · have hf := zif_f hf c5
      refine z_icmp_ne_f (tgt := 90) dX12_unit_48 (by decide) c5 ?_
      refine z_aload_n dX12_unit_51 rfl ?_
      obtain ⟨r11, S10, k12, hf⟩ := zb_some hf
      refine z_callVi dX12_unit_52 tM_12_155 mt_12031 (Nat.le_of_ble_eq_true rfl) rfl rfl (z_recv hE dr_41 rfl) rfl (ia_oks_le hn1 rfl) (Nat.le_of_ble_eq_true rfl) (w_X12_goesIn hn1 hn2 (d + 57) hE k12) (fun h hE => ?_)
      by_cases c13 : ¬ r11 = 0
      · have hf := zif_t hf c13
        refine z_if_ne_t (tgt := 60) dX12_unit_55 (by decide) c13 ?_
        refine z_aload_n dX12_unit_60 rfl ?_
        refine z_iconst (v := 0) dX12_unit_61 (by decide) ?_
        refine z_iconst (v := 0) dX12_unit_62 (by decide) ?_
        obtain ⟨r15, S14, k16, hf⟩ := zb_some hf
        refine z_callVi dX12_unit_63 tM_12_184 mt_12025 (Nat.le_of_ble_eq_true rfl) rfl rfl (z_recv hE dr_41 rfl) rfl (ia_oks_le hn1 rfl) (Nat.le_of_ble_eq_true rfl) (w_X12_condition_o hn1 hn2 (d + 0) (fun  h S R hE hk => (hh  h S R hE hk).mono (by omega)) hE k16) (fun h hE => ?_)
        refine z_istore_n (lv' := [(2, .int r15), (1, .int r2), (0, .ref 41)]) dX12_unit_66 (by decide) rfl ?_
        refine z_aload_n dX12_unit_67 rfl ?_
        refine z_bipush (v := 41) dX12_unit_68 (by decide) ?_
        obtain ⟨r18, S17, k19, hf⟩ := zb_some hf
        refine z_callVi dX12_unit_70 tM_12_161 mt_12024 (Nat.le_of_ble_eq_true rfl) rfl rfl (z_recv hE dr_41 rfl) rfl (ia_oks_le hn1 rfl) (Nat.le_of_ble_eq_true rfl) (w_X12_takes hn1 hn2 (d + 57) hE k19) (fun h hE => ?_)
        by_cases c20 : ¬ r18 = 0
        · have hf := zif_t hf c20
          refine z_if_ne_t (tgt := 78) dX12_unit_73 (by decide) c20 ?_
          refine z_aload_n dX12_unit_78 rfl ?_
          refine z_dup dX12_unit_79 rfl ?_
          refine z_getI dX12_unit_80 tF_12_128 hE dr_41 rfl rfl ?_
          refine z_iconst (v := 1) dX12_unit_83 (by decide) ?_
          refine z_isub dX12_unit_84 ?_
          obtain ⟨S21, eS21, hf⟩ := zl_some hf
          refine z_putI dX12_unit_85 tF_12_128 hE dr_41 rfl rfl rfl rfl (fun h hE => ?_)
          rw [← eS21] at hE
          refine z_iload_n dX12_unit_88 rfl ?_
          obtain ⟨b22, hf⟩ := zchk hf
          have e_ := Option.some.inj hf
          subst e_
          exact z_zreturn dX12_unit_89 rfl b22 ⟨h, rfl, rfl, hE⟩
        · have hf := zif_f hf c20
          refine z_if_ne_f (tgt := 78) dX12_unit_73 (by decide) c20 ?_
          refine z_iconst (v := 0) dX12_unit_76 (by decide) ?_
          have e_ := Option.some.inj hf
          subst e_
          exact z_zreturn dX12_unit_77 rfl (by decide) ⟨h, rfl, rfl, hE⟩
      · have hf := zif_f hf c13
        refine z_if_ne_f (tgt := 60) dX12_unit_55 (by decide) c13 ?_
        refine z_iconst (v := 0) dX12_unit_58 (by decide) ?_
        have e_ := Option.some.inj hf
        subst e_
        exact z_zreturn dX12_unit_59 rfl (by decide) ⟨h, rfl, rfl, hE⟩
  · have hf := zif_f hf c4
    refine z_icmp_ne_f (tgt := 45) dX12_unit_8 (by decide) c4 ?_
    refine z_aload_n dX12_unit_11 rfl ?_
    obtain ⟨r24, S23, k25, hf⟩ := zb_some hf
    refine z_callVi dX12_unit_12 tM_12_155 mt_12031 (Nat.le_of_ble_eq_true rfl) rfl rfl (z_recv hE dr_41 rfl) rfl (ia_oks_le hn1 rfl) (Nat.le_of_ble_eq_true rfl) (w_X12_goesIn hn1 hn2 (d + 57) hE k25) (fun h hE => ?_)
    by_cases c26 : ¬ r24 = 0
    · have hf := zif_t hf c26
      refine z_if_ne_t (tgt := 20) dX12_unit_15 (by decide) c26 ?_
      refine z_aload_n dX12_unit_20 rfl ?_
      obtain ⟨r28, S27, k29, hf⟩ := zb_some hf
      refine z_callVi dX12_unit_21 tM_12_181 mt_12034 (Nat.le_of_ble_eq_true rfl) rfl rfl (z_recv hE dr_41 rfl) rfl (ia_oks_le hn1 rfl) (Nat.le_of_ble_eq_true rfl) ((hh  h S23 _ hE k29).mono (by omega)) (fun h hE => ?_)
      refine z_istore_n (lv' := [(2, .int r28), (1, .int r2), (0, .ref 41)]) dX12_unit_24 (by decide) rfl ?_
      refine z_aload_n dX12_unit_25 rfl ?_
      refine z_dup dX12_unit_26 rfl ?_
      refine z_getI dX12_unit_27 tF_12_128 hE dr_41 rfl rfl ?_
      refine z_iconst (v := 1) dX12_unit_30 (by decide) ?_
      refine z_isub dX12_unit_31 ?_
      obtain ⟨S30, eS30, hf⟩ := zl_some hf
      refine z_putI dX12_unit_32 tF_12_128 hE dr_41 rfl rfl rfl rfl (fun h hE => ?_)
      rw [← eS30] at hE
      refine z_iload_n dX12_unit_35 rfl ?_
      by_cases c31 : ¬ r28 = 0
      · have hf := zif_t hf c31
        refine z_if_ne_t (tgt := 43) dX12_unit_36 (by decide) c31 ?_
        refine z_iconst (v := 0) dX12_unit_43 (by decide) ?_
        have e_ := Option.some.inj hf
        subst e_
        exact z_zreturn dX12_unit_44 rfl (by decide) ⟨h, rfl, rfl, hE⟩
      · have hf := zif_f hf c31
        refine z_if_ne_f (tgt := 43) dX12_unit_36 (by decide) c31 ?_
        refine z_iconst (v := 1) dX12_unit_39 (by decide) ?_
        refine z_goto (tgt := 44) dX12_unit_40 (by decide) ?_
        have e_ := Option.some.inj hf
        subst e_
        exact z_zreturn dX12_unit_44 rfl (by decide) ⟨h, rfl, rfl, hE⟩
    · have hf := zif_f hf c26
      refine z_if_ne_f (tgt := 20) dX12_unit_15 (by decide) c26 ?_
      refine z_iconst (v := 0) dX12_unit_18 (by decide) ?_
      have e_ := Option.some.inj hf
      subst e_
      exact z_zreturn dX12_unit_19 rfl (by decide) ⟨h, rfl, rfl, hE⟩
def f_X12_unit_g : Nat → zS → Option (Int32 × zS)
  | 0 => fun _ => none
  | g + 1 => f_X12_unit_o (f_X12_unit_g g)
theorem w_X12_unit_g {L : Nat} {xs : Nat → Int32} {fm : Bool} {h0 : Nat → va_E} {t : Nat × Nat × Nat} (hn1 : 64 ≤ t.1) (hn2 : t.1 ≤ 1000000) (d : Nat) : ∀ g : Nat, ∀ (h : Nat → va_E) (S : zS) (R : Int32 × zS), zE zDr h0 S (h, t) → f_X12_unit_g g  S = some R → zC (ia_P0 L xs fm) (d + 3 * g + 57) 12034 [.ref 41] (h, t) (zQi zDr h0 t R) := by
  intro g
  induction g with
  | zero => intro  h S R hE hf; cases hf
  | succ g ih => intro  h S R hE hf; exact (w_X12_unit_o hn1 hn2 (d + 3 * g) ih hE hf).mono (by omega)
def f_X12_condition (a0 : Int32) (a1 : Int32) (S : zS) : Option (Int32 × zS) := f_X12_condition_o (f_X12_unit_g 16) a0 a1 S
theorem w_X12_condition {L : Nat} {xs : Nat → Int32} {fm : Bool} {h0 : Nat → va_E} {t : Nat × Nat × Nat} (hn1 : 64 ≤ t.1) (hn2 : t.1 ≤ 1000000) (d : Nat) {h : Nat → va_E} {S : zS} (hE : zE zDr h0 S (h, t)) {a0 : Int32} {a1 : Int32} {R : Int32 × zS} (hf : f_X12_condition a0 a1 S = some R) : zC (ia_P0 L xs fm) (d + 107) 12025 [.ref 41, .int a0, .int a1] (h, t) (zQi zDr h0 t R) :=
  (w_X12_condition_o hn1 hn2 (d + 3 * 16) (w_X12_unit_g hn1 hn2 d 16) hE hf).mono (by omega)
def f_X12_clause  (S : zS) : Option (Unit × zS) :=
zb (f_X12_look S) fun r2 S1 =>
zb (f_X12_isAmong_1000106 r2 S1) fun r5 S4 =>
if ¬ r5 = 0 then
zl (sV S4 41 10 ((S4.1 41 10) + 1)) fun S8 =>
zb (f_X12_takes 58 S8) fun r10 S9 =>
if ¬ r10 = 0 then
zb (f_X12_look S9) fun r14 S13 =>
zl (fun (u18 : Unit) =>
zb (f_X12_condition 0 0 S13) fun r20 S19 =>
zb (f_X12_takes 63 S19) fun r23 S22 =>
if ¬ r23 = 0 then
zb (f_X12_sum S22) fun r27 S26 =>
if ¬ (S26.1 41 11) = (-1) then
some ((), S26)
else
if ¬ (S26.1 41 17) = 0 then
some ((), S26)
else
if ¬ r2 = (S26.1 41 13) then
some ((), S26)
else
if ¬ r20 = 0 then
zl (sV S26 41 17 1) fun S33 =>
zl (sV S33 41 14 r27) fun S34 =>
some ((), S34)
else
some ((), S26)
else
some ((), S22)) fun J17 =>
if r14 = 33 then
J17 ()
else
if ¬ r14 = 40 then
zb (f_X12_sum S13) fun r37 S36 =>
zl (fun (q42 : Int32) (q43 : Int32) (S41 : zS) =>
if ¬ (S41.1 41 11) = (-1) then
some ((), S41)
else
if ¬ (S41.1 41 17) = 0 then
some ((), S41)
else
if ¬ r2 = (S41.1 41 13) then
some ((), S41)
else
if ¬ q42 = 0 then
zl (sV S41 41 17 1) fun S48 =>
zl (sV S48 41 14 q43) fun S49 =>
some ((), S49)
else
some ((), S41)) fun J40 =>
if ¬ (S36.1 41 11) = (-1) then
J40 1 r37 S36
else
zb (f_X12_look S36) fun r51 S50 =>
zb (f_X12_isSign r51 S50) fun r54 S53 =>
if r54 = 0 then
J40 1 r37 S53
else
zb (f_X12_condition 1 r37 S53) fun r58 S57 =>
zb (f_X12_takes 63 S57) fun r61 S60 =>
if ¬ r61 = 0 then
zb (f_X12_sum S60) fun r65 S64 =>
J40 r58 r65 S64
else
some ((), S60)
else
J17 ()
else
some ((), S9)
else
zb (f_X12_fails S4) fun r68 S67 =>
some ((), S67)
theorem w_X12_clause {L : Nat} {xs : Nat → Int32} {fm : Bool} {h0 : Nat → va_E} {t : Nat × Nat × Nat} (hn1 : 64 ≤ t.1) (hn2 : t.1 ≤ 1000000) (d : Nat) {h : Nat → va_E} {S : zS} (hE : zE zDr h0 S (h, t)) {R : Unit × zS} (hf : f_X12_clause  S = some R) : zC (ia_P0 L xs fm) (d + 108) 12022 [.ref 41] (h, t) (zQv zDr h0 t R) := by
  refine zC_of mt_12022 nn_12022 (Nat.le_of_ble_eq_true rfl) ?_
  refine zW_lv (lv' := [(0, .ref 41)]) rfl ?_
  unfold f_X12_clause at hf
  refine z_aload_n dX12_clause_0 rfl ?_
  obtain ⟨r2, S1, k3, hf⟩ := zb_some hf
  refine z_callVi dX12_clause_1 tM_12_135 mt_12011 (Nat.le_of_ble_eq_true rfl) rfl rfl (z_recv hE dr_41 rfl) rfl (ia_oks_le hn1 rfl) (Nat.le_of_ble_eq_true rfl) (w_X12_look hn1 hn2 (d + 106) hE k3) (fun h hE => ?_)
  refine z_istore_n (lv' := [(1, .int r2), (0, .ref 41)]) dX12_clause_4 (by decide) rfl ?_
  refine z_ldcS dX12_clause_5 tK_12_26 ?_
  refine z_iload_n dX12_clause_7 rfl ?_
  obtain ⟨r5, S4, k6, hf⟩ := zb_some hf
  refine z_callSi dX12_clause_8 tM_12_151 (by decide) mt_12023 (Nat.le_of_ble_eq_true rfl) rfl rfl (ia_oks_le hn1 rfl) (Nat.le_of_ble_eq_true rfl) (w_X12_isAmong_1000106 hn1 hn2 (d + 102) hE k6) (fun h hE => ?_)
  by_cases c7 : ¬ r5 = 0
  · have hf := zif_t hf c7
    refine z_if_ne_t (tgt := 20) dX12_clause_11 (by decide) c7 ?_
    refine z_aload_n dX12_clause_20 rfl ?_
    refine z_dup dX12_clause_21 rfl ?_
    refine z_getI dX12_clause_22 tF_12_116 hE dr_41 rfl rfl ?_
    refine z_iconst (v := 1) dX12_clause_25 (by decide) ?_
    refine z_iadd dX12_clause_26 ?_
    obtain ⟨S8, eS8, hf⟩ := zl_some hf
    refine z_putI dX12_clause_27 tF_12_116 hE dr_41 rfl rfl rfl rfl (fun h hE => ?_)
    rw [← eS8] at hE
    refine z_aload_n dX12_clause_30 rfl ?_
    refine z_bipush (v := 58) dX12_clause_31 (by decide) ?_
    obtain ⟨r10, S9, k11, hf⟩ := zb_some hf
    refine z_callVi dX12_clause_33 tM_12_161 mt_12024 (Nat.le_of_ble_eq_true rfl) rfl rfl (z_recv hE dr_41 rfl) rfl (ia_oks_le hn1 rfl) (Nat.le_of_ble_eq_true rfl) (w_X12_takes hn1 hn2 (d + 105) hE k11) (fun h hE => ?_)
    by_cases c12 : ¬ r10 = 0
    · have hf := zif_t hf c12
      refine z_if_ne_t (tgt := 40) dX12_clause_36 (by decide) c12 ?_
      refine z_iconst (v := 1) dX12_clause_40 (by decide) ?_
      refine z_istore_n (lv' := [(2, .int 1), (1, .int r2), (0, .ref 41)]) dX12_clause_41 (by decide) rfl ?_
      refine z_iconst (v := 0) dX12_clause_42 (by decide) ?_
      refine z_istore_n (lv' := [(3, .int 0), (2, .int 1), (1, .int r2), (0, .ref 41)]) dX12_clause_43 (by decide) rfl ?_
      refine z_aload_n dX12_clause_44 rfl ?_
      obtain ⟨r14, S13, k15, hf⟩ := zb_some hf
      refine z_callVi dX12_clause_45 tM_12_135 mt_12011 (Nat.le_of_ble_eq_true rfl) rfl rfl (z_recv hE dr_41 rfl) rfl (ia_oks_le hn1 rfl) (Nat.le_of_ble_eq_true rfl) (w_X12_look hn1 hn2 (d + 106) hE k15) (fun h hE => ?_)
      refine z_istore (lv' := [(4, .int r14), (3, .int 0), (2, .int 1), (1, .int r2), (0, .ref 41)]) dX12_clause_48 (by decide) rfl ?_
      refine z_iload dX12_clause_50 rfl ?_
      refine z_bipush (v := 33) dX12_clause_52 (by decide) ?_
      obtain ⟨J17, eJ17, hf⟩ := zl_some hf
      have hJ17 : ∀ (u18 : Unit) (h : Nat → va_E), zE zDr h0 S13 (h, t) → J17 u18 = some R → zW (ia_P0 L xs fm) ia_nx (d + 107) 12 false cX12_clause 5 (none) 64 [(0, .ref 41), (1, .int r2), (2, .int 1), (3, .int 0), (4, .int r14)] [] (h, t) (zQv zDr h0 t R) := by
        intro u18 h hE hf
        rw [eJ17] at hf
        refine z_aload_n dX12_clause_64 rfl ?_
        refine z_iconst (v := 0) dX12_clause_65 (by decide) ?_
        refine z_iconst (v := 0) dX12_clause_66 (by decide) ?_
        obtain ⟨r20, S19, k21, hf⟩ := zb_some hf
        refine z_callVi dX12_clause_67 tM_12_184 mt_12025 (Nat.le_of_ble_eq_true rfl) rfl rfl (z_recv hE dr_41 rfl) rfl (ia_oks_le hn1 rfl) (Nat.le_of_ble_eq_true rfl) (w_X12_condition hn1 hn2 (d + 0) hE k21) (fun h hE => ?_)
        refine z_istore_n (lv' := [(2, .int r20), (0, .ref 41), (1, .int r2), (3, .int 0), (4, .int r14)]) dX12_clause_70 (by decide) rfl ?_
        refine z_aload_n dX12_clause_71 rfl ?_
        refine z_bipush (v := 63) dX12_clause_72 (by decide) ?_
        obtain ⟨r23, S22, k24, hf⟩ := zb_some hf
        refine z_callVi dX12_clause_74 tM_12_161 mt_12024 (Nat.le_of_ble_eq_true rfl) rfl rfl (z_recv hE dr_41 rfl) rfl (ia_oks_le hn1 rfl) (Nat.le_of_ble_eq_true rfl) (w_X12_takes hn1 hn2 (d + 105) hE k24) (fun h hE => ?_)
        by_cases c25 : ¬ r23 = 0
        · have hf := zif_t hf c25
          refine z_if_ne_t (tgt := 81) dX12_clause_77 (by decide) c25 ?_
          refine z_aload_n dX12_clause_81 rfl ?_
          obtain ⟨r27, S26, k28, hf⟩ := zb_some hf
          refine z_callVi dX12_clause_82 tM_12_158 mt_12028 (Nat.le_of_ble_eq_true rfl) rfl rfl (z_recv hE dr_41 rfl) rfl (ia_oks_le hn1 rfl) (Nat.le_of_ble_eq_true rfl) (w_X12_sum hn1 hn2 (d + 51) hE k28) (fun h hE => ?_)
          refine z_istore_n (lv' := [(3, .int r27), (2, .int r20), (0, .ref 41), (1, .int r2), (4, .int r14)]) dX12_clause_85 (by decide) rfl ?_
          refine z_goto (tgt := 134) dX12_clause_86 (by decide) ?_
          refine z_aload_n dX12_clause_134 rfl ?_
          refine z_getI dX12_clause_135 tF_12_125 hE dr_41 rfl rfl ?_
          refine z_iconst (v := (-1)) dX12_clause_138 (by decide) ?_
          by_cases c29 : ¬ (S26.1 41 11) = (-1)
          · have hf := zif_t hf c29
            refine z_icmp_ne_t (tgt := 161) dX12_clause_139 (by decide) c29 ?_
            have e_ := Option.some.inj hf
            subst e_
            exact z_vreturn dX12_clause_161 rfl ⟨h, rfl, rfl, hE⟩
          · have hf := zif_f hf c29
            refine z_icmp_ne_f (tgt := 161) dX12_clause_139 (by decide) c29 ?_
            refine z_aload_n dX12_clause_142 rfl ?_
            refine z_getI dX12_clause_143 tF_12_194 hE dr_41 rfl rfl ?_
            by_cases c30 : ¬ (S26.1 41 17) = 0
            · have hf := zif_t hf c30
              refine z_if_ne_t (tgt := 161) dX12_clause_146 (by decide) c30 ?_
              have e_ := Option.some.inj hf
              subst e_
              exact z_vreturn dX12_clause_161 rfl ⟨h, rfl, rfl, hE⟩
            · have hf := zif_f hf c30
              refine z_if_ne_f (tgt := 161) dX12_clause_146 (by decide) c30 ?_
              refine z_iload_n dX12_clause_149 rfl ?_
              refine z_aload_n dX12_clause_150 rfl ?_
              refine z_getI dX12_clause_151 tF_12_198 hE dr_41 rfl rfl ?_
              by_cases c31 : ¬ r2 = (S26.1 41 13)
              · have hf := zif_t hf c31
                refine z_icmp_ne_t (tgt := 161) dX12_clause_154 (by decide) c31 ?_
                have e_ := Option.some.inj hf
                subst e_
                exact z_vreturn dX12_clause_161 rfl ⟨h, rfl, rfl, hE⟩
              · have hf := zif_f hf c31
                refine z_icmp_ne_f (tgt := 161) dX12_clause_154 (by decide) c31 ?_
                refine z_iload_n dX12_clause_157 rfl ?_
                by_cases c32 : ¬ r20 = 0
                · have hf := zif_t hf c32
                  refine z_if_ne_t (tgt := 162) dX12_clause_158 (by decide) c32 ?_
                  refine z_aload_n dX12_clause_162 rfl ?_
                  refine z_iconst (v := 1) dX12_clause_163 (by decide) ?_
                  obtain ⟨S33, eS33, hf⟩ := zl_some hf
                  refine z_putI dX12_clause_164 tF_12_194 hE dr_41 rfl rfl (show ia_fit .boolean (.int 1) = true from by decide) rfl (fun h hE => ?_)
                  rw [← eS33] at hE
                  refine z_aload_n dX12_clause_167 rfl ?_
                  refine z_iload_n dX12_clause_168 rfl ?_
                  obtain ⟨S34, eS34, hf⟩ := zl_some hf
                  refine z_putI dX12_clause_169 tF_12_201 hE dr_41 rfl rfl rfl rfl (fun h hE => ?_)
                  rw [← eS34] at hE
                  have e_ := Option.some.inj hf
                  subst e_
                  exact z_vreturn dX12_clause_172 rfl ⟨h, rfl, rfl, hE⟩
                · have hf := zif_f hf c32
                  refine z_if_ne_f (tgt := 162) dX12_clause_158 (by decide) c32 ?_
                  have e_ := Option.some.inj hf
                  subst e_
                  exact z_vreturn dX12_clause_161 rfl ⟨h, rfl, rfl, hE⟩
        · have hf := zif_f hf c25
          refine z_if_ne_f (tgt := 81) dX12_clause_77 (by decide) c25 ?_
          have e_ := Option.some.inj hf
          subst e_
          exact z_vreturn dX12_clause_80 rfl ⟨h, rfl, rfl, hE⟩
      by_cases c16 : r14 = 33
      · have hf := zif_t hf c16
        refine z_icmp_eq_t (tgt := 64) dX12_clause_54 (by decide) c16 ?_
        exact zW.sub (hJ17 () _ hE hf) [4, 3, 2, 1, 0] rfl rfl rfl rfl
      · have hf := zif_f hf c16
        refine z_icmp_eq_f (tgt := 64) dX12_clause_54 (by decide) c16 ?_
        refine z_iload dX12_clause_57 rfl ?_
        refine z_bipush (v := 40) dX12_clause_59 (by decide) ?_
        by_cases c35 : ¬ r14 = 40
        · have hf := zif_t hf c35
          refine z_icmp_ne_t (tgt := 89) dX12_clause_61 (by decide) c35 ?_
          refine z_aload_n dX12_clause_89 rfl ?_
          obtain ⟨r37, S36, k38, hf⟩ := zb_some hf
          refine z_callVi dX12_clause_90 tM_12_158 mt_12028 (Nat.le_of_ble_eq_true rfl) rfl rfl (z_recv hE dr_41 rfl) rfl (ia_oks_le hn1 rfl) (Nat.le_of_ble_eq_true rfl) (w_X12_sum hn1 hn2 (d + 51) hE k38) (fun h hE => ?_)
          refine z_istore_n (lv' := [(3, .int r37), (4, .int r14), (2, .int 1), (1, .int r2), (0, .ref 41)]) dX12_clause_93 (by decide) rfl ?_
          refine z_aload_n dX12_clause_94 rfl ?_
          refine z_getI dX12_clause_95 tF_12_125 hE dr_41 rfl rfl ?_
          refine z_iconst (v := (-1)) dX12_clause_98 (by decide) ?_
          obtain ⟨J40, eJ40, hf⟩ := zl_some hf
          have hJ40 : ∀ (q42 : Int32) (q43 : Int32) (S41 : zS) (h : Nat → va_E), zE zDr h0 S41 (h, t) → J40 q42 q43 S41 = some R → zW (ia_P0 L xs fm) ia_nx (d + 107) 12 false cX12_clause 5 (none) 134 [(0, .ref 41), (1, .int r2), (2, .int q42), (3, .int q43), (4, .int r14)] [] (h, t) (zQv zDr h0 t R) := by
            intro q42 q43 S41 h hE hf
            rw [eJ40] at hf
            refine z_aload_n dX12_clause_134 rfl ?_
            refine z_getI dX12_clause_135 tF_12_125 hE dr_41 rfl rfl ?_
            refine z_iconst (v := (-1)) dX12_clause_138 (by decide) ?_
            by_cases c44 : ¬ (S41.1 41 11) = (-1)
            · have hf := zif_t hf c44
              refine z_icmp_ne_t (tgt := 161) dX12_clause_139 (by decide) c44 ?_
              have e_ := Option.some.inj hf
              subst e_
              exact z_vreturn dX12_clause_161 rfl ⟨h, rfl, rfl, hE⟩
            · have hf := zif_f hf c44
              refine z_icmp_ne_f (tgt := 161) dX12_clause_139 (by decide) c44 ?_
              refine z_aload_n dX12_clause_142 rfl ?_
              refine z_getI dX12_clause_143 tF_12_194 hE dr_41 rfl rfl ?_
              by_cases c45 : ¬ (S41.1 41 17) = 0
              · have hf := zif_t hf c45
                refine z_if_ne_t (tgt := 161) dX12_clause_146 (by decide) c45 ?_
                have e_ := Option.some.inj hf
                subst e_
                exact z_vreturn dX12_clause_161 rfl ⟨h, rfl, rfl, hE⟩
              · have hf := zif_f hf c45
                refine z_if_ne_f (tgt := 161) dX12_clause_146 (by decide) c45 ?_
                refine z_iload_n dX12_clause_149 rfl ?_
                refine z_aload_n dX12_clause_150 rfl ?_
                refine z_getI dX12_clause_151 tF_12_198 hE dr_41 rfl rfl ?_
                by_cases c46 : ¬ r2 = (S41.1 41 13)
                · have hf := zif_t hf c46
                  refine z_icmp_ne_t (tgt := 161) dX12_clause_154 (by decide) c46 ?_
                  have e_ := Option.some.inj hf
                  subst e_
                  exact z_vreturn dX12_clause_161 rfl ⟨h, rfl, rfl, hE⟩
                · have hf := zif_f hf c46
                  refine z_icmp_ne_f (tgt := 161) dX12_clause_154 (by decide) c46 ?_
                  refine z_iload_n dX12_clause_157 rfl ?_
                  by_cases c47 : ¬ q42 = 0
                  · have hf := zif_t hf c47
                    refine z_if_ne_t (tgt := 162) dX12_clause_158 (by decide) c47 ?_
                    refine z_aload_n dX12_clause_162 rfl ?_
                    refine z_iconst (v := 1) dX12_clause_163 (by decide) ?_
                    obtain ⟨S48, eS48, hf⟩ := zl_some hf
                    refine z_putI dX12_clause_164 tF_12_194 hE dr_41 rfl rfl (show ia_fit .boolean (.int 1) = true from by decide) rfl (fun h hE => ?_)
                    rw [← eS48] at hE
                    refine z_aload_n dX12_clause_167 rfl ?_
                    refine z_iload_n dX12_clause_168 rfl ?_
                    obtain ⟨S49, eS49, hf⟩ := zl_some hf
                    refine z_putI dX12_clause_169 tF_12_201 hE dr_41 rfl rfl rfl rfl (fun h hE => ?_)
                    rw [← eS49] at hE
                    have e_ := Option.some.inj hf
                    subst e_
                    exact z_vreturn dX12_clause_172 rfl ⟨h, rfl, rfl, hE⟩
                  · have hf := zif_f hf c47
                    refine z_if_ne_f (tgt := 162) dX12_clause_158 (by decide) c47 ?_
                    have e_ := Option.some.inj hf
                    subst e_
                    exact z_vreturn dX12_clause_161 rfl ⟨h, rfl, rfl, hE⟩
          by_cases c39 : ¬ (S36.1 41 11) = (-1)
          · have hf := zif_t hf c39
            refine z_icmp_ne_t (tgt := 134) dX12_clause_99 (by decide) c39 ?_
            exact zW.sub (hJ40 1 r37 S36 _ hE hf) [4, 3, 2, 0, 1] rfl rfl rfl rfl
          · have hf := zif_f hf c39
            refine z_icmp_ne_f (tgt := 134) dX12_clause_99 (by decide) c39 ?_
            refine z_aload_n dX12_clause_102 rfl ?_
            obtain ⟨r51, S50, k52, hf⟩ := zb_some hf
            refine z_callVi dX12_clause_103 tM_12_135 mt_12011 (Nat.le_of_ble_eq_true rfl) rfl rfl (z_recv hE dr_41 rfl) rfl (ia_oks_le hn1 rfl) (Nat.le_of_ble_eq_true rfl) (w_X12_look hn1 hn2 (d + 106) hE k52) (fun h hE => ?_)
            obtain ⟨r54, S53, k55, hf⟩ := zb_some hf
            refine z_callSi dX12_clause_106 tM_12_178 (by decide) mt_12033 (Nat.le_of_ble_eq_true rfl) rfl rfl (ia_oks_le hn1 rfl) (Nat.le_of_ble_eq_true rfl) (w_X12_isSign hn1 hn2 (d + 106) hE k55) (fun h hE => ?_)
            by_cases c56 : r54 = 0
            · have hf := zif_t hf c56
              refine z_if_eq_t (tgt := 134) dX12_clause_109 (by decide) c56 ?_
              exact zW.sub (hJ40 1 r37 S53 _ hE hf) [4, 3, 2, 0, 1] rfl rfl rfl rfl
            · have hf := zif_f hf c56
              refine z_if_eq_f (tgt := 134) dX12_clause_109 (by decide) c56 ?_
              refine z_aload_n dX12_clause_112 rfl ?_
              refine z_iconst (v := 1) dX12_clause_113 (by decide) ?_
              refine z_iload_n dX12_clause_114 rfl ?_
              obtain ⟨r58, S57, k59, hf⟩ := zb_some hf
              refine z_callVi dX12_clause_115 tM_12_184 mt_12025 (Nat.le_of_ble_eq_true rfl) rfl rfl (z_recv hE dr_41 rfl) rfl (ia_oks_le hn1 rfl) (Nat.le_of_ble_eq_true rfl) (w_X12_condition hn1 hn2 (d + 0) hE k59) (fun h hE => ?_)
              refine z_istore_n (lv' := [(2, .int r58), (3, .int r37), (4, .int r14), (1, .int r2), (0, .ref 41)]) dX12_clause_118 (by decide) rfl ?_
              refine z_aload_n dX12_clause_119 rfl ?_
              refine z_bipush (v := 63) dX12_clause_120 (by decide) ?_
              obtain ⟨r61, S60, k62, hf⟩ := zb_some hf
              refine z_callVi dX12_clause_122 tM_12_161 mt_12024 (Nat.le_of_ble_eq_true rfl) rfl rfl (z_recv hE dr_41 rfl) rfl (ia_oks_le hn1 rfl) (Nat.le_of_ble_eq_true rfl) (w_X12_takes hn1 hn2 (d + 105) hE k62) (fun h hE => ?_)
              by_cases c63 : ¬ r61 = 0
              · have hf := zif_t hf c63
                refine z_if_ne_t (tgt := 129) dX12_clause_125 (by decide) c63 ?_
                refine z_aload_n dX12_clause_129 rfl ?_
                obtain ⟨r65, S64, k66, hf⟩ := zb_some hf
                refine z_callVi dX12_clause_130 tM_12_158 mt_12028 (Nat.le_of_ble_eq_true rfl) rfl rfl (z_recv hE dr_41 rfl) rfl (ia_oks_le hn1 rfl) (Nat.le_of_ble_eq_true rfl) (w_X12_sum hn1 hn2 (d + 51) hE k66) (fun h hE => ?_)
                refine z_istore_n (lv' := [(3, .int r65), (2, .int r58), (4, .int r14), (1, .int r2), (0, .ref 41)]) dX12_clause_133 (by decide) rfl ?_
                exact zW.sub (hJ40 r58 r65 S64 _ hE hf) [4, 3, 1, 0, 2] rfl rfl rfl rfl
              · have hf := zif_f hf c63
                refine z_if_ne_f (tgt := 129) dX12_clause_125 (by decide) c63 ?_
                have e_ := Option.some.inj hf
                subst e_
                exact z_vreturn dX12_clause_128 rfl ⟨h, rfl, rfl, hE⟩
        · have hf := zif_f hf c35
          refine z_icmp_ne_f (tgt := 89) dX12_clause_61 (by decide) c35 ?_
          exact zW.sub (hJ17 () _ hE hf) [4, 3, 2, 1, 0] rfl rfl rfl rfl
    · have hf := zif_f hf c12
      refine z_if_ne_f (tgt := 40) dX12_clause_36 (by decide) c12 ?_
      have e_ := Option.some.inj hf
      subst e_
      exact z_vreturn dX12_clause_39 rfl ⟨h, rfl, rfl, hE⟩
  · have hf := zif_f hf c7
    refine z_if_ne_f (tgt := 20) dX12_clause_11 (by decide) c7 ?_
    refine z_aload_n dX12_clause_14 rfl ?_
    obtain ⟨r68, S67, k69, hf⟩ := zb_some hf
    refine z_callVi dX12_clause_15 tM_12_131 mt_12012 (Nat.le_of_ble_eq_true rfl) rfl rfl (z_recv hE dr_41 rfl) rfl (ia_oks_le hn1 rfl) (Nat.le_of_ble_eq_true rfl) (w_X12_fails hn1 hn2 (d + 106) hE k69) (fun h hE => ?_)
    refine z_pop dX12_clause_18 rfl ?_
    have e_ := Option.some.inj hf
    subst e_
    exact z_vreturn dX12_clause_19 rfl ⟨h, rfl, rfl, hE⟩
def f_X12_goThrough_L32 (b : Nat) (ex : zS → Option (Unit × zS)) (i2 : Int32) (i3 : Int32) : Nat → zS → Option (Unit × zS)
  | 0, _ => none
  | k + 1, S =>
    if ¬ (S.1 41 11) = (-1) then
    ex  S
    else
    zb (f_X12_look S) fun r13 S12 =>
    if ¬ r13 = 59 then
    ex  S12
    else
    zl (sV S12 41 10 ((S12.1 41 10) + 1)) fun S16 =>
    zb (f_X12_clause S16) fun _ S17 =>
    f_X12_goThrough_L32 b ex i2 i3 k S17
def f_X12_goThrough (b : Nat) (v2 : Int32) (v3 : Int32) (S : zS) : Option (Unit × zS) :=
zb (f_X12_starts b v2 v3 S) fun _ S1 =>
zl (sV S1 41 13 121) fun S4 =>
zl (sV S4 41 12 0) fun S5 =>
zl (sV S5 41 17 0) fun S6 =>
zl (sV S6 41 14 0) fun S7 =>
zb (f_X12_clause S7) fun _ S8 =>
f_X12_goThrough_L32 b (fun  (S20 : zS) =>
if ¬ (S20.1 41 11) = (-1) then
some ((), S20)
else
zb (f_X12_look S20) fun r23 S22 =>
if r23 = (-1) then
some ((), S22)
else
zb (f_X12_fails S22) fun r27 S26 =>
some ((), S26)) v2 v3 zN  S8
theorem w_X12_goThrough_L32 {L : Nat} {xs : Nat → Int32} {fm : Bool} {h0 : Nat → va_E} {t : Nat × Nat × Nat} (hn1 : 64 ≤ t.1) (hn2 : t.1 ≤ 1000000) (d : Nat) {b : Nat} (hb_b : b < 63) {ex : zS → Option (Unit × zS)} {i2 : Int32} {i3 : Int32} {R : Unit × zS} (hex : ∀  (S : zS) (h : Nat → va_E), zE zDr h0 S (h, t) → ex S = some R → zW (ia_P0 L xs fm) ia_nx (d + 108) 12 false cX12_goThrough 4 (none) 66 [(0, .ref 41), (1, .ref b), (2, .int i2), (3, .int i3)] [] (h, t) (zQv zDr h0 t R)) : ∀ (k : Nat)  (S : zS) (h : Nat → va_E), zE zDr h0 S (h, t) → f_X12_goThrough_L32 b ex i2 i3 k S = some R → zW (ia_P0 L xs fm) ia_nx (d + 108) 12 false cX12_goThrough 4 (none) 32 [(0, .ref 41), (1, .ref b), (2, .int i2), (3, .int i3)] [] (h, t) (zQv zDr h0 t R) := by
  intro k
  induction k with
  | zero => intro S h hE hf; cases hf
  | succ k ih =>
    intro S h hE hf
    unfold f_X12_goThrough_L32 at hf
    refine z_aload_n dX12_goThrough_32 rfl ?_
    refine z_getI dX12_goThrough_33 tF_12_125 hE dr_41 rfl rfl ?_
    refine z_iconst (v := (-1)) dX12_goThrough_36 (by decide) ?_
    by_cases c11 : ¬ (S.1 41 11) = (-1)
    · have hf := zif_t hf c11
      refine z_icmp_ne_t (tgt := 66) dX12_goThrough_37 (by decide) c11 ?_
      exact zW.sub (hex  S _ hE hf) [0, 1, 2, 3] rfl rfl rfl rfl
    · have hf := zif_f hf c11
      refine z_icmp_ne_f (tgt := 66) dX12_goThrough_37 (by decide) c11 ?_
      refine z_aload_n dX12_goThrough_40 rfl ?_
      obtain ⟨r13, S12, k14, hf⟩ := zb_some hf
      refine z_callVi dX12_goThrough_41 tM_12_135 mt_12011 (Nat.le_of_ble_eq_true rfl) rfl rfl (z_recv hE dr_41 rfl) rfl (by have q0 : 41 < t.1 := Nat.lt_of_lt_of_le (by decide) hn1; have q1 : b < t.1 := Nat.lt_of_lt_of_le hb_b (Nat.le_trans (by decide) hn1); simp [ia_oks, ia_okv, q0, q1]) (Nat.le_of_ble_eq_true rfl) (w_X12_look hn1 hn2 (d + 107) hE k14) (fun h hE => ?_)
      refine z_bipush (v := 59) dX12_goThrough_44 (by decide) ?_
      by_cases c15 : ¬ r13 = 59
      · have hf := zif_t hf c15
        refine z_icmp_ne_t (tgt := 66) dX12_goThrough_46 (by decide) c15 ?_
        exact zW.sub (hex  S12 _ hE hf) [0, 1, 2, 3] rfl rfl rfl rfl
      · have hf := zif_f hf c15
        refine z_icmp_ne_f (tgt := 66) dX12_goThrough_46 (by decide) c15 ?_
        refine z_aload_n dX12_goThrough_49 rfl ?_
        refine z_dup dX12_goThrough_50 rfl ?_
        refine z_getI dX12_goThrough_51 tF_12_116 hE dr_41 rfl rfl ?_
        refine z_iconst (v := 1) dX12_goThrough_54 (by decide) ?_
        refine z_iadd dX12_goThrough_55 ?_
        obtain ⟨S16, eS16, hf⟩ := zl_some hf
        refine z_putI dX12_goThrough_56 tF_12_116 hE dr_41 rfl rfl rfl rfl (fun h hE => ?_)
        rw [← eS16] at hE
        refine z_aload_n dX12_goThrough_59 rfl ?_
        obtain ⟨r18, S17, k19, hf⟩ := zb_some hf
        refine z_callVv dX12_goThrough_60 tM_12_208 mt_12022 (Nat.le_of_ble_eq_true rfl) rfl rfl (z_recv hE dr_41 rfl) rfl (by have q0 : 41 < t.1 := Nat.lt_of_lt_of_le (by decide) hn1; have q1 : b < t.1 := Nat.lt_of_lt_of_le hb_b (Nat.le_trans (by decide) hn1); simp [ia_oks, ia_okv, q0, q1]) (Nat.le_of_ble_eq_true rfl) (w_X12_clause hn1 hn2 (d + 0) hE k19) (fun h hE => ?_)
        refine z_goto (tgt := 32) dX12_goThrough_63 (by decide) ?_
        exact zW.sub (ih  S17 _ hE hf) [0, 1, 2, 3] rfl rfl rfl rfl
theorem w_X12_goThrough {L : Nat} {xs : Nat → Int32} {fm : Bool} {h0 : Nat → va_E} {t : Nat × Nat × Nat} (hn1 : 64 ≤ t.1) (hn2 : t.1 ≤ 1000000) (d : Nat) {b : Nat} (hb_b : b < 63) {h : Nat → va_E} {S : zS} (hE : zE zDr h0 S (h, t)) {v2 : Int32} {v3 : Int32} {R : Unit × zS} (hf : f_X12_goThrough b v2 v3 S = some R) : zC (ia_P0 L xs fm) (d + 109) 12021 [.ref 41, .ref b, .int v2, .int v3] (h, t) (zQv zDr h0 t R) := by
  refine zC_of mt_12021 nn_12021 (Nat.le_of_ble_eq_true rfl) ?_
  refine zW_lv (lv' := [(0, .ref 41), (1, .ref b), (2, .int v2), (3, .int v3)]) rfl ?_
  unfold f_X12_goThrough at hf
  refine z_aload_n dX12_goThrough_0 rfl ?_
  refine z_aload_n dX12_goThrough_1 rfl ?_
  refine z_iload_n dX12_goThrough_2 rfl ?_
  refine z_iload_n dX12_goThrough_3 rfl ?_
  obtain ⟨r2, S1, k3, hf⟩ := zb_some hf
  refine z_callVv dX12_goThrough_4 tM_12_204 mt_12009 (Nat.le_of_ble_eq_true rfl) rfl rfl (z_recv hE dr_41 rfl) rfl (by have q0 : 41 < t.1 := Nat.lt_of_lt_of_le (by decide) hn1; have q1 : b < t.1 := Nat.lt_of_lt_of_le hb_b (Nat.le_trans (by decide) hn1); simp [ia_oks, ia_okv, q0, q1]) (Nat.le_of_ble_eq_true rfl) (w_X12_starts hn1 hn2 (d + 107) hb_b hE k3) (fun h hE => ?_)
  refine z_aload_n dX12_goThrough_7 rfl ?_
  refine z_bipush (v := 121) dX12_goThrough_8 (by decide) ?_
  obtain ⟨S4, eS4, hf⟩ := zl_some hf
  refine z_putI dX12_goThrough_10 tF_12_198 hE dr_41 rfl rfl rfl rfl (fun h hE => ?_)
  rw [← eS4] at hE
  refine z_aload_n dX12_goThrough_13 rfl ?_
  refine z_iconst (v := 0) dX12_goThrough_14 (by decide) ?_
  obtain ⟨S5, eS5, hf⟩ := zl_some hf
  refine z_putI dX12_goThrough_15 tF_12_128 hE dr_41 rfl rfl rfl rfl (fun h hE => ?_)
  rw [← eS5] at hE
  refine z_aload_n dX12_goThrough_18 rfl ?_
  refine z_iconst (v := 0) dX12_goThrough_19 (by decide) ?_
  obtain ⟨S6, eS6, hf⟩ := zl_some hf
  refine z_putI dX12_goThrough_20 tF_12_194 hE dr_41 rfl rfl (show ia_fit .boolean (.int 0) = true from by decide) rfl (fun h hE => ?_)
  rw [← eS6] at hE
  refine z_aload_n dX12_goThrough_23 rfl ?_
  refine z_iconst (v := 0) dX12_goThrough_24 (by decide) ?_
  obtain ⟨S7, eS7, hf⟩ := zl_some hf
  refine z_putI dX12_goThrough_25 tF_12_201 hE dr_41 rfl rfl rfl rfl (fun h hE => ?_)
  rw [← eS7] at hE
  refine z_aload_n dX12_goThrough_28 rfl ?_
  obtain ⟨r9, S8, k10, hf⟩ := zb_some hf
  refine z_callVv dX12_goThrough_29 tM_12_208 mt_12022 (Nat.le_of_ble_eq_true rfl) rfl rfl (z_recv hE dr_41 rfl) rfl (by have q0 : 41 < t.1 := Nat.lt_of_lt_of_le (by decide) hn1; have q1 : b < t.1 := Nat.lt_of_lt_of_le hb_b (Nat.le_trans (by decide) hn1); simp [ia_oks, ia_okv, q0, q1]) (Nat.le_of_ble_eq_true rfl) (w_X12_clause hn1 hn2 (d + 0) hE k10) (fun h hE => ?_)
  refine zW.sub (w_X12_goThrough_L32 hn1 hn2 d hb_b (fun  S20 h hE hf => ?_) zN  S8 h hE hf) [0, 1, 2, 3] rfl rfl rfl rfl
  try dsimp only at hf
  refine z_aload_n dX12_goThrough_66 rfl ?_
  refine z_getI dX12_goThrough_67 tF_12_125 hE dr_41 rfl rfl ?_
  refine z_iconst (v := (-1)) dX12_goThrough_70 (by decide) ?_
  by_cases c21 : ¬ (S20.1 41 11) = (-1)
  · have hf := zif_t hf c21
    refine z_icmp_ne_t (tgt := 87) dX12_goThrough_71 (by decide) c21 ?_
    have e_ := Option.some.inj hf
    subst e_
    exact z_vreturn dX12_goThrough_87 rfl ⟨h, rfl, rfl, hE⟩
  · have hf := zif_f hf c21
    refine z_icmp_ne_f (tgt := 87) dX12_goThrough_71 (by decide) c21 ?_
    refine z_aload_n dX12_goThrough_74 rfl ?_
    obtain ⟨r23, S22, k24, hf⟩ := zb_some hf
    refine z_callVi dX12_goThrough_75 tM_12_135 mt_12011 (Nat.le_of_ble_eq_true rfl) rfl rfl (z_recv hE dr_41 rfl) rfl (by have q0 : 41 < t.1 := Nat.lt_of_lt_of_le (by decide) hn1; have q1 : b < t.1 := Nat.lt_of_lt_of_le hb_b (Nat.le_trans (by decide) hn1); simp [ia_oks, ia_okv, q0, q1]) (Nat.le_of_ble_eq_true rfl) (w_X12_look hn1 hn2 (d + 107) hE k24) (fun h hE => ?_)
    refine z_iconst (v := (-1)) dX12_goThrough_78 (by decide) ?_
    by_cases c25 : r23 = (-1)
    · have hf := zif_t hf c25
      refine z_icmp_eq_t (tgt := 87) dX12_goThrough_79 (by decide) c25 ?_
      have e_ := Option.some.inj hf
      subst e_
      exact z_vreturn dX12_goThrough_87 rfl ⟨h, rfl, rfl, hE⟩
    · have hf := zif_f hf c25
      refine z_icmp_eq_f (tgt := 87) dX12_goThrough_79 (by decide) c25 ?_
      refine z_aload_n dX12_goThrough_82 rfl ?_
      obtain ⟨r27, S26, k28, hf⟩ := zb_some hf
      refine z_callVi dX12_goThrough_83 tM_12_131 mt_12012 (Nat.le_of_ble_eq_true rfl) rfl rfl (z_recv hE dr_41 rfl) rfl (by have q0 : 41 < t.1 := Nat.lt_of_lt_of_le (by decide) hn1; have q1 : b < t.1 := Nat.lt_of_lt_of_le hb_b (Nat.le_trans (by decide) hn1); simp [ia_oks, ia_okv, q0, q1]) (Nat.le_of_ble_eq_true rfl) (w_X12_fails hn1 hn2 (d + 107) hE k28) (fun h hE => ?_)
      refine z_pop dX12_goThrough_86 rfl ?_
      have e_ := Option.some.inj hf
      subst e_
      exact z_vreturn dX12_goThrough_87 rfl ⟨h, rfl, rfl, hE⟩
def f_X12_placeOf_1000105_L2 (ex : Int32 → zS → Option (Int32 × zS)) (i1 : Int32) : Nat → Int32 → zS → Option (Int32 × zS)
  | 0, _, _ => none
  | k + 1, x2, S =>
    zb (f_J0_length_8abf5_1000105 S) fun r2 S1 =>
    if r2 ≤ x2 then
    ex x2 S1
    else
    zb (f_J0_charAt_5068e_1000105 x2 S1) fun r6 S5 =>
    if ¬ r6 = i1 then
    zl (x2 + 1) fun (y9 : Int32) =>
    f_X12_placeOf_1000105_L2 ex i1 k y9 S5
    else
    some (x2, S5)
def f_X12_placeOf_1000105 (v1 : Int32) (S : zS) : Option (Int32 × zS) :=
f_X12_placeOf_1000105_L2 (fun (q11 : Int32) (S10 : zS) =>
some ((-1), S10)) v1 zN 0 S
theorem w_X12_placeOf_1000105_L2 {L : Nat} {xs : Nat → Int32} {fm : Bool} {h0 : Nat → va_E} {t : Nat × Nat × Nat} (hn1 : 64 ≤ t.1) (hn2 : t.1 ≤ 1000000) (d : Nat) {ex : Int32 → zS → Option (Int32 × zS)} {i1 : Int32} {R : Int32 × zS} (hex : ∀ (x2 : Int32) (S : zS) (h : Nat → va_E), zE zDr h0 S (h, t) → ex x2 S = some R → zW (ia_P0 L xs fm) ia_nx (d + 4) 12 false cX12_placeOf 3 (some .int) 27 [(0, .ref 1000105), (1, .int i1), (2, .int x2)] [] (h, t) (zQi zDr h0 t R)) : ∀ (k : Nat) (x2 : Int32) (S : zS) (h : Nat → va_E), zE zDr h0 S (h, t) → f_X12_placeOf_1000105_L2 ex i1 k x2 S = some R → zW (ia_P0 L xs fm) ia_nx (d + 4) 12 false cX12_placeOf 3 (some .int) 2 [(0, .ref 1000105), (1, .int i1), (2, .int x2)] [] (h, t) (zQi zDr h0 t R) := by
  intro k
  induction k with
  | zero => intro x2 S h hE hf; cases hf
  | succ k ih =>
    intro x2 S h hE hf
    unfold f_X12_placeOf_1000105_L2 at hf
    refine z_iload_n dX12_placeOf_2 rfl ?_
    refine z_aload_n dX12_placeOf_3 rfl ?_
    obtain ⟨r2, S1, k3, hf⟩ := zb_some hf
    refine z_callVi dX12_placeOf_4 tM_12_96 mt_900003 (Nat.le_of_ble_eq_true rfl) rfl rfl (z_recvC (hp := (h, t)) (by decide) hn2 hc_1000105) rfl (ia_oks_le hn1 rfl) (Nat.le_of_ble_eq_true rfl) (w_J0_length_8abf5_1000105 hn1 hn2 (d + 2) hE k3) (fun h hE => ?_)
    by_cases c4 : r2 ≤ x2
    · have hf := zif_t hf c4
      refine z_icmp_ge_t (tgt := 27) dX12_placeOf_7 (by decide) c4 ?_
      exact zW.sub (hex x2 S1 _ hE hf) [0, 1, 2] rfl rfl rfl rfl
    · have hf := zif_f hf c4
      refine z_icmp_ge_f (tgt := 27) dX12_placeOf_7 (by decide) c4 ?_
      refine z_aload_n dX12_placeOf_10 rfl ?_
      refine z_iload_n dX12_placeOf_11 rfl ?_
      obtain ⟨r6, S5, k7, hf⟩ := zb_some hf
      refine z_callVi dX12_placeOf_12 tM_12_102 mt_900006 (Nat.le_of_ble_eq_true rfl) rfl rfl (z_recvC (hp := (h, t)) (by decide) hn2 hc_1000105) rfl (ia_oks_le hn1 rfl) (Nat.le_of_ble_eq_true rfl) (w_J0_charAt_5068e_1000105 hn1 hn2 (d + 0) hE k7) (fun h hE => ?_)
      refine z_iload_n dX12_placeOf_15 rfl ?_
      by_cases c8 : ¬ r6 = i1
      · have hf := zif_t hf c8
        refine z_icmp_ne_t (tgt := 21) dX12_placeOf_16 (by decide) c8 ?_
        obtain ⟨y9, ey9, hf⟩ := zl_some hf
        refine z_iincY (v := 1) (y := y9) (lv' := [(2, .int y9), (0, .ref 1000105), (1, .int i1)]) dX12_placeOf_21 rfl (by decide) (by decide) ey9 rfl ?_
        refine z_goto (tgt := 2) dX12_placeOf_24 (by decide) ?_
        exact zW.sub (ih y9 S5 _ hE hf) [1, 2, 0] rfl rfl rfl rfl
      · have hf := zif_f hf c8
        refine z_icmp_ne_f (tgt := 21) dX12_placeOf_16 (by decide) c8 ?_
        refine z_iload_n dX12_placeOf_19 rfl ?_
        have e_ := Option.some.inj hf
        subst e_
        exact z_ireturn dX12_placeOf_20 rfl ⟨h, rfl, rfl, hE⟩
theorem w_X12_placeOf_1000105 {L : Nat} {xs : Nat → Int32} {fm : Bool} {h0 : Nat → va_E} {t : Nat × Nat × Nat} (hn1 : 64 ≤ t.1) (hn2 : t.1 ≤ 1000000) (d : Nat) {h : Nat → va_E} {S : zS} (hE : zE zDr h0 S (h, t)) {v1 : Int32} {R : Int32 × zS} (hf : f_X12_placeOf_1000105 v1 S = some R) : zC (ia_P0 L xs fm) (d + 5) 12014 [.ref 1000105, .int v1] (h, t) (zQi zDr h0 t R) := by
  refine zC_of mt_12014 nn_12014 (Nat.le_of_ble_eq_true rfl) ?_
  refine zW_lv (lv' := [(0, .ref 1000105), (1, .int v1)]) rfl ?_
  unfold f_X12_placeOf_1000105 at hf
  refine z_iconst (v := 0) dX12_placeOf_0 (by decide) ?_
  refine z_istore_n (lv' := [(2, .int 0), (0, .ref 1000105), (1, .int v1)]) dX12_placeOf_1 (by decide) rfl ?_
  refine zW.sub (w_X12_placeOf_1000105_L2 hn1 hn2 d (fun q11 S10 h hE hf => ?_) zN 0 S h hE hf) [1, 2, 0] rfl rfl rfl rfl
  try dsimp only at hf
  refine z_iconst (v := (-1)) dX12_placeOf_27 (by decide) ?_
  have e_ := Option.some.inj hf
  subst e_
  exact z_ireturn dX12_placeOf_28 rfl ⟨h, rfl, rfl, hE⟩
def f_X12_digit  (S : zS) : Option (Int32 × zS) :=
zb (f_X12_look S) fun r2 S1 =>
zb (f_X12_isDigit S1) fun r5 S4 =>
if ¬ r5 = 0 then
zl (sV S4 41 10 ((S4.1 41 10) + 1)) fun S8 =>
zkr (S8.2.1 41 5) none fun a9 =>
if a9 = 42 then
if ia_in (((S8.1 41 8) + (S8.1 41 10)) - 1) 200 = true then
some ((S8.1 42 (((S8.1 41 8) + (S8.1 41 10)) - 1).toNatClampNeg) - 48, S8)
else none
else if a9 = 43 then
if ia_in (((S8.1 41 8) + (S8.1 41 10)) - 1) 800 = true then
some ((S8.1 43 (((S8.1 41 8) + (S8.1 41 10)) - 1).toNatClampNeg) - 48, S8)
else none
else none
else
zb (f_X12_fails S4) fun r13 S12 =>
some (0, S12)
theorem w_X12_digit {L : Nat} {xs : Nat → Int32} {fm : Bool} {h0 : Nat → va_E} {t : Nat × Nat × Nat} (hn1 : 64 ≤ t.1) (hn2 : t.1 ≤ 1000000) (d : Nat) {h : Nat → va_E} {S : zS} (hE : zE zDr h0 S (h, t)) {R : Int32 × zS} (hf : f_X12_digit  S = some R) : zC (ia_P0 L xs fm) (d + 2) 12037 [.ref 41] (h, t) (zQi zDr h0 t R) := by
  refine zC_of mt_12037 nn_12037 (Nat.le_of_ble_eq_true rfl) ?_
  refine zW_lv (lv' := [(0, .ref 41)]) rfl ?_
  unfold f_X12_digit at hf
  refine z_aload_n dX12_digit_0 rfl ?_
  obtain ⟨r2, S1, k3, hf⟩ := zb_some hf
  refine z_callVi dX12_digit_1 tM_12_135 mt_12011 (Nat.le_of_ble_eq_true rfl) rfl rfl (z_recv hE dr_41 rfl) rfl (ia_oks_le hn1 rfl) (Nat.le_of_ble_eq_true rfl) (w_X12_look hn1 hn2 (d + 0) hE k3) (fun h hE => ?_)
  refine z_pop dX12_digit_4 rfl ?_
  refine z_aload_n dX12_digit_5 rfl ?_
  obtain ⟨r5, S4, k6, hf⟩ := zb_some hf
  refine z_callVi dX12_digit_6 tM_12_165 mt_12019 (Nat.le_of_ble_eq_true rfl) rfl rfl (z_recv hE dr_41 rfl) rfl (ia_oks_le hn1 rfl) (Nat.le_of_ble_eq_true rfl) (w_X12_isDigit hn1 hn2 (d + 0) hE k6) (fun h hE => ?_)
  by_cases c7 : ¬ r5 = 0
  · have hf := zif_t hf c7
    refine z_if_ne_t (tgt := 19) dX12_digit_9 (by decide) c7 ?_
    refine z_aload_n dX12_digit_19 rfl ?_
    refine z_dup dX12_digit_20 rfl ?_
    refine z_getI dX12_digit_21 tF_12_116 hE dr_41 rfl rfl ?_
    refine z_iconst (v := 1) dX12_digit_24 (by decide) ?_
    refine z_iadd dX12_digit_25 ?_
    obtain ⟨S8, eS8, hf⟩ := zl_some hf
    refine z_putI dX12_digit_26 tF_12_116 hE dr_41 rfl rfl rfl rfl (fun h hE => ?_)
    rw [← eS8] at hE
    refine z_aload_n dX12_digit_29 rfl ?_
    rcases zkr_some hf with ⟨-, hf⟩ | ⟨a9, ea9, hf⟩
    · cases hf
    · by_cases hqa9 : a9 = 42
      · replace hf := zif_t hf hqa9
        subst hqa9
        refine z_getK dX12_digit_30 tF_12_23 hE dr_41 rfl rfl ?_
        refine z_topv ea9 ?_
        refine z_aload_n dX12_digit_33 rfl ?_
        refine z_getI dX12_digit_34 tF_12_122 hE dr_41 rfl rfl ?_
        refine z_aload_n dX12_digit_37 rfl ?_
        refine z_getI dX12_digit_38 tF_12_116 hE dr_41 rfl rfl ?_
        refine z_iadd dX12_digit_41 ?_
        refine z_iconst (v := 1) dX12_digit_42 (by decide) ?_
        refine z_isub dX12_digit_43 ?_
        obtain ⟨b10, hf⟩ := zchk hf
        refine z_baload dX12_digit_44 hE dr_42 b10 ?_
        refine z_bipush (v := 48) dX12_digit_45 (by decide) ?_
        refine z_isub dX12_digit_47 ?_
        have e_ := Option.some.inj hf
        subst e_
        exact z_ireturn dX12_digit_48 rfl ⟨h, rfl, rfl, hE⟩
      · replace hf := zif_f hf hqa9
        have hwa9 := (zchk hf).1
        replace hf := (zchk hf).2
        clear hqa9
        subst hwa9
        refine z_getK dX12_digit_30 tF_12_23 hE dr_41 rfl rfl ?_
        refine z_topv ea9 ?_
        refine z_aload_n dX12_digit_33 rfl ?_
        refine z_getI dX12_digit_34 tF_12_122 hE dr_41 rfl rfl ?_
        refine z_aload_n dX12_digit_37 rfl ?_
        refine z_getI dX12_digit_38 tF_12_116 hE dr_41 rfl rfl ?_
        refine z_iadd dX12_digit_41 ?_
        refine z_iconst (v := 1) dX12_digit_42 (by decide) ?_
        refine z_isub dX12_digit_43 ?_
        obtain ⟨b11, hf⟩ := zchk hf
        refine z_baload dX12_digit_44 hE dr_43 b11 ?_
        refine z_bipush (v := 48) dX12_digit_45 (by decide) ?_
        refine z_isub dX12_digit_47 ?_
        have e_ := Option.some.inj hf
        subst e_
        exact z_ireturn dX12_digit_48 rfl ⟨h, rfl, rfl, hE⟩
  · have hf := zif_f hf c7
    refine z_if_ne_f (tgt := 19) dX12_digit_9 (by decide) c7 ?_
    refine z_aload_n dX12_digit_12 rfl ?_
    obtain ⟨r13, S12, k14, hf⟩ := zb_some hf
    refine z_callVi dX12_digit_13 tM_12_131 mt_12012 (Nat.le_of_ble_eq_true rfl) rfl rfl (z_recv hE dr_41 rfl) rfl (ia_oks_le hn1 rfl) (Nat.le_of_ble_eq_true rfl) (w_X12_fails hn1 hn2 (d + 0) hE k14) (fun h hE => ?_)
    refine z_pop dX12_digit_16 rfl ?_
    refine z_iconst (v := 0) dX12_digit_17 (by decide) ?_
    have e_ := Option.some.inj hf
    subst e_
    exact z_ireturn dX12_digit_18 rfl ⟨h, rfl, rfl, hE⟩
def f_X12_readStep  (S : zS) : Option (Int32 × zS) :=
zb (f_X12_look S) fun r2 S1 =>
zb (f_X12_placeOf_1000105 r2 S1) fun r5 S4 =>
zl (fun (u9 : Unit) =>
zl (sV S4 41 10 ((S4.1 41 10) + 1)) fun S10 =>
if r5 = (-1) then
zb (f_X12_digit S10) fun r13 S12 =>
if ¬ (S12.1 41 11) = (-1) then
some (10 + r13, S12)
else
if ¬ r2 = 100 then
zb (f_X12_digit S12) fun r18 S17 =>
some ((100 + (10 * r13)) + r18, S17)
else
some (10 + r13, S12)
else
some (r5, S10)) fun J8 =>
if ¬ r5 = (-1) then
J8 ()
else
if r2 = 100 then
J8 ()
else
if r2 = 121 then
J8 ()
else
zb (f_X12_fails S4) fun r23 S22 =>
some ((-1), S22)
theorem w_X12_readStep {L : Nat} {xs : Nat → Int32} {fm : Bool} {h0 : Nat → va_E} {t : Nat × Nat × Nat} (hn1 : 64 ≤ t.1) (hn2 : t.1 ≤ 1000000) (d : Nat) {h : Nat → va_E} {S : zS} (hE : zE zDr h0 S (h, t)) {R : Int32 × zS} (hf : f_X12_readStep  S = some R) : zC (ia_P0 L xs fm) (d + 6) 12036 [.ref 41] (h, t) (zQi zDr h0 t R) := by
  refine zC_of mt_12036 nn_12036 (Nat.le_of_ble_eq_true rfl) ?_
  refine zW_lv (lv' := [(0, .ref 41)]) rfl ?_
  unfold f_X12_readStep at hf
  refine z_aload_n dX12_readStep_0 rfl ?_
  obtain ⟨r2, S1, k3, hf⟩ := zb_some hf
  refine z_callVi dX12_readStep_1 tM_12_135 mt_12011 (Nat.le_of_ble_eq_true rfl) rfl rfl (z_recv hE dr_41 rfl) rfl (ia_oks_le hn1 rfl) (Nat.le_of_ble_eq_true rfl) (w_X12_look hn1 hn2 (d + 4) hE k3) (fun h hE => ?_)
  refine z_istore_n (lv' := [(1, .int r2), (0, .ref 41)]) dX12_readStep_4 (by decide) rfl ?_
  refine z_ldcwS dX12_readStep_5 tK_12_258 ?_
  refine z_iload_n dX12_readStep_8 rfl ?_
  obtain ⟨r5, S4, k6, hf⟩ := zb_some hf
  refine z_callSi dX12_readStep_9 tM_12_237 (by decide) mt_12014 (Nat.le_of_ble_eq_true rfl) rfl rfl (ia_oks_le hn1 rfl) (Nat.le_of_ble_eq_true rfl) (w_X12_placeOf_1000105 hn1 hn2 (d + 0) hE k6) (fun h hE => ?_)
  refine z_istore_n (lv' := [(2, .int r5), (1, .int r2), (0, .ref 41)]) dX12_readStep_12 (by decide) rfl ?_
  refine z_iload_n dX12_readStep_13 rfl ?_
  refine z_iconst (v := (-1)) dX12_readStep_14 (by decide) ?_
  obtain ⟨J8, eJ8, hf⟩ := zl_some hf
  have hJ8 : ∀ (u9 : Unit) (h : Nat → va_E), zE zDr h0 S4 (h, t) → J8 u9 = some R → zW (ia_P0 L xs fm) ia_nx (d + 5) 12 false cX12_readStep 4 (some .int) 37 [(0, .ref 41), (1, .int r2), (2, .int r5)] [] (h, t) (zQi zDr h0 t R) := by
    intro u9 h hE hf
    rw [eJ8] at hf
    refine z_aload_n dX12_readStep_37 rfl ?_
    refine z_dup dX12_readStep_38 rfl ?_
    refine z_getI dX12_readStep_39 tF_12_116 hE dr_41 rfl rfl ?_
    refine z_iconst (v := 1) dX12_readStep_42 (by decide) ?_
    refine z_iadd dX12_readStep_43 ?_
    obtain ⟨S10, eS10, hf⟩ := zl_some hf
    refine z_putI dX12_readStep_44 tF_12_116 hE dr_41 rfl rfl rfl rfl (fun h hE => ?_)
    rw [← eS10] at hE
    refine z_iload_n dX12_readStep_47 rfl ?_
    refine z_iconst (v := (-1)) dX12_readStep_48 (by decide) ?_
    by_cases c11 : r5 = (-1)
    · have hf := zif_t hf c11
      refine z_icmp_eq_t (tgt := 54) dX12_readStep_49 (by decide) c11 ?_
      refine z_aload_n dX12_readStep_54 rfl ?_
      obtain ⟨r13, S12, k14, hf⟩ := zb_some hf
      refine z_callVi dX12_readStep_55 tM_12_260 mt_12037 (Nat.le_of_ble_eq_true rfl) rfl rfl (z_recv hE dr_41 rfl) rfl (ia_oks_le hn1 rfl) (Nat.le_of_ble_eq_true rfl) (w_X12_digit hn1 hn2 (d + 3) hE k14) (fun h hE => ?_)
      refine z_istore_n (lv' := [(3, .int r13), (0, .ref 41), (1, .int r2), (2, .int r5)]) dX12_readStep_58 (by decide) rfl ?_
      refine z_aload_n dX12_readStep_59 rfl ?_
      refine z_getI dX12_readStep_60 tF_12_125 hE dr_41 rfl rfl ?_
      refine z_iconst (v := (-1)) dX12_readStep_63 (by decide) ?_
      by_cases c15 : ¬ (S12.1 41 11) = (-1)
      · have hf := zif_t hf c15
        refine z_icmp_ne_t (tgt := 73) dX12_readStep_64 (by decide) c15 ?_
        refine z_bipush (v := 10) dX12_readStep_73 (by decide) ?_
        refine z_iload_n dX12_readStep_75 rfl ?_
        refine z_iadd dX12_readStep_76 ?_
        have e_ := Option.some.inj hf
        subst e_
        exact z_ireturn dX12_readStep_77 rfl ⟨h, rfl, rfl, hE⟩
      · have hf := zif_f hf c15
        refine z_icmp_ne_f (tgt := 73) dX12_readStep_64 (by decide) c15 ?_
        refine z_iload_n dX12_readStep_67 rfl ?_
        refine z_bipush (v := 100) dX12_readStep_68 (by decide) ?_
        by_cases c16 : ¬ r2 = 100
        · have hf := zif_t hf c16
          refine z_icmp_ne_t (tgt := 78) dX12_readStep_70 (by decide) c16 ?_
          refine z_bipush (v := 100) dX12_readStep_78 (by decide) ?_
          refine z_bipush (v := 10) dX12_readStep_80 (by decide) ?_
          refine z_iload_n dX12_readStep_82 rfl ?_
          refine z_imul dX12_readStep_83 ?_
          refine z_iadd dX12_readStep_84 ?_
          refine z_aload_n dX12_readStep_85 rfl ?_
          obtain ⟨r18, S17, k19, hf⟩ := zb_some hf
          refine z_callVi dX12_readStep_86 tM_12_260 mt_12037 (Nat.le_of_ble_eq_true rfl) rfl rfl (z_recv hE dr_41 rfl) rfl (ia_oks_le hn1 rfl) (Nat.le_of_ble_eq_true rfl) (w_X12_digit hn1 hn2 (d + 3) hE k19) (fun h hE => ?_)
          refine z_iadd dX12_readStep_89 ?_
          have e_ := Option.some.inj hf
          subst e_
          exact z_ireturn dX12_readStep_90 rfl ⟨h, rfl, rfl, hE⟩
        · have hf := zif_f hf c16
          refine z_icmp_ne_f (tgt := 78) dX12_readStep_70 (by decide) c16 ?_
          refine z_bipush (v := 10) dX12_readStep_73 (by decide) ?_
          refine z_iload_n dX12_readStep_75 rfl ?_
          refine z_iadd dX12_readStep_76 ?_
          have e_ := Option.some.inj hf
          subst e_
          exact z_ireturn dX12_readStep_77 rfl ⟨h, rfl, rfl, hE⟩
    · have hf := zif_f hf c11
      refine z_icmp_eq_f (tgt := 54) dX12_readStep_49 (by decide) c11 ?_
      refine z_iload_n dX12_readStep_52 rfl ?_
      have e_ := Option.some.inj hf
      subst e_
      exact z_ireturn dX12_readStep_53 rfl ⟨h, rfl, rfl, hE⟩
  by_cases c7 : ¬ r5 = (-1)
  · have hf := zif_t hf c7
    refine z_icmp_ne_t (tgt := 37) dX12_readStep_15 (by decide) c7 ?_
    exact zW.sub (hJ8 () _ hE hf) [2, 1, 0] rfl rfl rfl rfl
  · have hf := zif_f hf c7
    refine z_icmp_ne_f (tgt := 37) dX12_readStep_15 (by decide) c7 ?_
    refine z_iload_n dX12_readStep_18 rfl ?_
    refine z_bipush (v := 100) dX12_readStep_19 (by decide) ?_
    by_cases c20 : r2 = 100
    · have hf := zif_t hf c20
      refine z_icmp_eq_t (tgt := 37) dX12_readStep_21 (by decide) c20 ?_
      exact zW.sub (hJ8 () _ hE hf) [2, 1, 0] rfl rfl rfl rfl
    · have hf := zif_f hf c20
      refine z_icmp_eq_f (tgt := 37) dX12_readStep_21 (by decide) c20 ?_
      refine z_iload_n dX12_readStep_24 rfl ?_
      refine z_bipush (v := 121) dX12_readStep_25 (by decide) ?_
      by_cases c21 : r2 = 121
      · have hf := zif_t hf c21
        refine z_icmp_eq_t (tgt := 37) dX12_readStep_27 (by decide) c21 ?_
        exact zW.sub (hJ8 () _ hE hf) [2, 1, 0] rfl rfl rfl rfl
      · have hf := zif_f hf c21
        refine z_icmp_eq_f (tgt := 37) dX12_readStep_27 (by decide) c21 ?_
        refine z_aload_n dX12_readStep_30 rfl ?_
        obtain ⟨r23, S22, k24, hf⟩ := zb_some hf
        refine z_callVi dX12_readStep_31 tM_12_131 mt_12012 (Nat.le_of_ble_eq_true rfl) rfl rfl (z_recv hE dr_41 rfl) rfl (ia_oks_le hn1 rfl) (Nat.le_of_ble_eq_true rfl) (w_X12_fails hn1 hn2 (d + 4) hE k24) (fun h hE => ?_)
        refine z_pop dX12_readStep_34 rfl ?_
        refine z_iconst (v := (-1)) dX12_readStep_35 (by decide) ?_
        have e_ := Option.some.inj hf
        subst e_
        exact z_ireturn dX12_readStep_36 rfl ⟨h, rfl, rfl, hE⟩
def f_X12_readPlan_L17 (ex : Int32 → Int32 → zS → Option (Unit × zS))  : Nat → Int32 → Int32 → zS → Option (Unit × zS)
  | 0, _, _, _ => none
  | k + 1, x1, x2, S =>
    if x2 = 0 then
    ex x1 x2 S
    else
    zb (f_X12_readStep S) fun r6 S5 =>
    if ia_in (64 + x1) 80 = true then
    zl (sV S5 52 ((64 + x1).toNatClampNeg) r6) fun S9 =>
    if (S9.1 41 11) = (-1) then
    zl (x1 + 1) fun (y11 : Int32) =>
    zb (f_X12_look S9) fun r13 S12 =>
    zl (fun (q17 : Int32) =>
    zl (fun (u20 : Unit) =>
    if q17 = 0 then
    f_X12_readPlan_L17 ex k y11 q17 S12
    else
    zl (sV S12 41 10 ((S12.1 41 10) + 1)) fun S22 =>
    f_X12_readPlan_L17 ex k y11 q17 S22) fun J19 =>
    if q17 = 0 then
    J19 ()
    else
    if ¬ y11 = 16 then
    J19 ()
    else
    zb (f_X12_fails S12) fun r25 S24 =>
    some ((), S24)) fun J16 =>
    if ¬ r13 = 59 then
    J16 0
    else
    J16 1
    else
    some ((), S9)
    else none
def f_X12_readPlan  (S : zS) : Option (Unit × zS) :=
zb (f_X12_starts 42 0 (S.1 41 6) S) fun _ S1 =>
f_X12_readPlan_L17 (fun (q28 : Int32) (q29 : Int32) (S27 : zS) =>
zl (sV S27 53 4 q28) fun S30 =>
zb (f_X12_look S30) fun r32 S31 =>
if r32 = (-1) then
some ((), S31)
else
zb (f_X12_fails S31) fun r36 S35 =>
some ((), S35))  zN 0 1 S1
theorem w_X12_readPlan_L17 {L : Nat} {xs : Nat → Int32} {fm : Bool} {h0 : Nat → va_E} {t : Nat × Nat × Nat} (hn1 : 64 ≤ t.1) (hn2 : t.1 ≤ 1000000) (d : Nat) {ex : Int32 → Int32 → zS → Option (Unit × zS)} {R : Unit × zS} (hex : ∀ (x1 : Int32) (x2 : Int32) (S : zS) (h : Nat → va_E), zE zDr h0 S (h, t) → ex x1 x2 S = some R → zW (ia_P0 L xs fm) ia_nx (d + 6) 12 false cX12_readPlan 3 (none) 94 [(0, .ref 41), (1, .int x1), (2, .int x2)] [] (h, t) (zQv zDr h0 t R)) : ∀ (k : Nat) (x1 : Int32) (x2 : Int32) (S : zS) (h : Nat → va_E), zE zDr h0 S (h, t) → f_X12_readPlan_L17 ex  k x1 x2 S = some R → zW (ia_P0 L xs fm) ia_nx (d + 6) 12 false cX12_readPlan 3 (none) 17 [(0, .ref 41), (1, .int x1), (2, .int x2)] [] (h, t) (zQv zDr h0 t R) := by
  intro k
  induction k with
  | zero => intro x1 x2 S h hE hf; cases hf
  | succ k ih =>
    intro x1 x2 S h hE hf
    unfold f_X12_readPlan_L17 at hf
    refine z_iload_n dX12_readPlan_17 rfl ?_
    by_cases c4 : x2 = 0
    · have hf := zif_t hf c4
      refine z_if_eq_t (tgt := 94) dX12_readPlan_18 (by decide) c4 ?_
      exact zW.sub (hex x1 x2 S _ hE hf) [0, 1, 2] rfl rfl rfl rfl
    · have hf := zif_f hf c4
      refine z_if_eq_f (tgt := 94) dX12_readPlan_18 (by decide) c4 ?_
      refine z_aload_n dX12_readPlan_21 rfl ?_
      refine z_getC dX12_readPlan_22 tF_12_55 hE dr_41 rfl rfl ?_
      refine z_bipush (v := 64) dX12_readPlan_25 (by decide) ?_
      refine z_iload_n dX12_readPlan_27 rfl ?_
      refine z_iadd dX12_readPlan_28 ?_
      refine z_aload_n dX12_readPlan_29 rfl ?_
      obtain ⟨r6, S5, k7, hf⟩ := zb_some hf
      refine z_callVi dX12_readPlan_30 tM_12_263 mt_12036 (Nat.le_of_ble_eq_true rfl) rfl rfl (z_recv hE dr_41 rfl) rfl (ia_oks_le hn1 rfl) (Nat.le_of_ble_eq_true rfl) (w_X12_readStep hn1 hn2 (d + 0) hE k7) (fun h hE => ?_)
      obtain ⟨b8, hf⟩ := zchk hf
      obtain ⟨S9, eS9, hf⟩ := zl_some hf
      refine z_iastoreL (i := (64 + x1).toNatClampNeg) dX12_readPlan_33 hE dr_52 b8 rfl (fun h hE => ?_)
      rw [← eS9] at hE
      refine z_aload_n dX12_readPlan_34 rfl ?_
      refine z_getI dX12_readPlan_35 tF_12_125 hE dr_41 rfl rfl ?_
      refine z_iconst (v := (-1)) dX12_readPlan_38 (by decide) ?_
      by_cases c10 : (S9.1 41 11) = (-1)
      · have hf := zif_t hf c10
        refine z_icmp_eq_t (tgt := 43) dX12_readPlan_39 (by decide) c10 ?_
        obtain ⟨y11, ey11, hf⟩ := zl_some hf
        refine z_iincY (v := 1) (y := y11) (lv' := [(1, .int y11), (0, .ref 41), (2, .int x2)]) dX12_readPlan_43 rfl (by decide) (by decide) ey11 rfl ?_
        refine z_aload_n dX12_readPlan_46 rfl ?_
        obtain ⟨r13, S12, k14, hf⟩ := zb_some hf
        refine z_callVi dX12_readPlan_47 tM_12_135 mt_12011 (Nat.le_of_ble_eq_true rfl) rfl rfl (z_recv hE dr_41 rfl) rfl (ia_oks_le hn1 rfl) (Nat.le_of_ble_eq_true rfl) (w_X12_look hn1 hn2 (d + 5) hE k14) (fun h hE => ?_)
        refine z_bipush (v := 59) dX12_readPlan_50 (by decide) ?_
        obtain ⟨J16, eJ16, hf⟩ := zl_some hf
        have hJ16 : ∀ (q17 : Int32) (h : Nat → va_E), zE zDr h0 S12 (h, t) → J16 q17 = some R → zW (ia_P0 L xs fm) ia_nx (d + 6) 12 false cX12_readPlan 3 (none) 60 [(0, .ref 41), (1, .int y11), (2, .int x2)] [.int q17] (h, t) (zQv zDr h0 t R) := by
          intro q17 h hE hf
          rw [eJ16] at hf
          refine z_istore_n (lv' := [(2, .int q17), (0, .ref 41), (1, .int y11)]) dX12_readPlan_60 (by decide) rfl ?_
          refine z_iload_n dX12_readPlan_61 rfl ?_
          obtain ⟨J19, eJ19, hf⟩ := zl_some hf
          have hJ19 : ∀ (u20 : Unit) (h : Nat → va_E), zE zDr h0 S12 (h, t) → J19 u20 = some R → zW (ia_P0 L xs fm) ia_nx (d + 6) 12 false cX12_readPlan 3 (none) 77 [(0, .ref 41), (1, .int y11), (2, .int q17)] [] (h, t) (zQv zDr h0 t R) := by
            intro u20 h hE hf
            rw [eJ19] at hf
            refine z_iload_n dX12_readPlan_77 rfl ?_
            by_cases c21 : q17 = 0
            · have hf := zif_t hf c21
              refine z_if_eq_t (tgt := 17) dX12_readPlan_78 (by decide) c21 ?_
              exact zW.sub (ih y11 q17 S12 _ hE hf) [0, 1, 2] rfl rfl rfl rfl
            · have hf := zif_f hf c21
              refine z_if_eq_f (tgt := 17) dX12_readPlan_78 (by decide) c21 ?_
              refine z_aload_n dX12_readPlan_81 rfl ?_
              refine z_dup dX12_readPlan_82 rfl ?_
              refine z_getI dX12_readPlan_83 tF_12_116 hE dr_41 rfl rfl ?_
              refine z_iconst (v := 1) dX12_readPlan_86 (by decide) ?_
              refine z_iadd dX12_readPlan_87 ?_
              obtain ⟨S22, eS22, hf⟩ := zl_some hf
              refine z_putI dX12_readPlan_88 tF_12_116 hE dr_41 rfl rfl rfl rfl (fun h hE => ?_)
              rw [← eS22] at hE
              refine z_goto (tgt := 17) dX12_readPlan_91 (by decide) ?_
              exact zW.sub (ih y11 q17 S22 _ hE hf) [0, 1, 2] rfl rfl rfl rfl
          by_cases c18 : q17 = 0
          · have hf := zif_t hf c18
            refine z_if_eq_t (tgt := 77) dX12_readPlan_62 (by decide) c18 ?_
            exact zW.sub (hJ19 () _ hE hf) [1, 2, 0] rfl rfl rfl rfl
          · have hf := zif_f hf c18
            refine z_if_eq_f (tgt := 77) dX12_readPlan_62 (by decide) c18 ?_
            refine z_iload_n dX12_readPlan_65 rfl ?_
            refine z_bipush (v := 16) dX12_readPlan_66 (by decide) ?_
            by_cases c23 : ¬ y11 = 16
            · have hf := zif_t hf c23
              refine z_icmp_ne_t (tgt := 77) dX12_readPlan_68 (by decide) c23 ?_
              exact zW.sub (hJ19 () _ hE hf) [1, 2, 0] rfl rfl rfl rfl
            · have hf := zif_f hf c23
              refine z_icmp_ne_f (tgt := 77) dX12_readPlan_68 (by decide) c23 ?_
              refine z_aload_n dX12_readPlan_71 rfl ?_
              obtain ⟨r25, S24, k26, hf⟩ := zb_some hf
              refine z_callVi dX12_readPlan_72 tM_12_131 mt_12012 (Nat.le_of_ble_eq_true rfl) rfl rfl (z_recv hE dr_41 rfl) rfl (ia_oks_le hn1 rfl) (Nat.le_of_ble_eq_true rfl) (w_X12_fails hn1 hn2 (d + 5) hE k26) (fun h hE => ?_)
              refine z_pop dX12_readPlan_75 rfl ?_
              have e_ := Option.some.inj hf
              subst e_
              exact z_vreturn dX12_readPlan_76 rfl ⟨h, rfl, rfl, hE⟩
        by_cases c15 : ¬ r13 = 59
        · have hf := zif_t hf c15
          refine z_icmp_ne_t (tgt := 59) dX12_readPlan_52 (by decide) c15 ?_
          refine z_iconst (v := 0) dX12_readPlan_59 (by decide) ?_
          exact zW.sub (hJ16 0 _ hE hf) [1, 0, 2] rfl rfl rfl rfl
        · have hf := zif_f hf c15
          refine z_icmp_ne_f (tgt := 59) dX12_readPlan_52 (by decide) c15 ?_
          refine z_iconst (v := 1) dX12_readPlan_55 (by decide) ?_
          refine z_goto (tgt := 60) dX12_readPlan_56 (by decide) ?_
          exact zW.sub (hJ16 1 _ hE hf) [1, 0, 2] rfl rfl rfl rfl
      · have hf := zif_f hf c10
        refine z_icmp_eq_f (tgt := 43) dX12_readPlan_39 (by decide) c10 ?_
        have e_ := Option.some.inj hf
        subst e_
        exact z_vreturn dX12_readPlan_42 rfl ⟨h, rfl, rfl, hE⟩
theorem w_X12_readPlan {L : Nat} {xs : Nat → Int32} {fm : Bool} {h0 : Nat → va_E} {t : Nat × Nat × Nat} (hn1 : 64 ≤ t.1) (hn2 : t.1 ≤ 1000000) (d : Nat) {h : Nat → va_E} {S : zS} (hE : zE zDr h0 S (h, t)) {R : Unit × zS} (hf : f_X12_readPlan  S = some R) : zC (ia_P0 L xs fm) (d + 7) 12035 [.ref 41] (h, t) (zQv zDr h0 t R) := by
  refine zC_of mt_12035 nn_12035 (Nat.le_of_ble_eq_true rfl) ?_
  refine zW_lv (lv' := [(0, .ref 41)]) rfl ?_
  unfold f_X12_readPlan at hf
  refine z_aload_n dX12_readPlan_0 rfl ?_
  refine z_aload_n dX12_readPlan_1 rfl ?_
  refine z_getC dX12_readPlan_2 tF_12_9 hE dr_41 rfl rfl ?_
  refine z_iconst (v := 0) dX12_readPlan_5 (by decide) ?_
  refine z_aload_n dX12_readPlan_6 rfl ?_
  refine z_getI dX12_readPlan_7 tF_12_106 hE dr_41 rfl rfl ?_
  obtain ⟨r2, S1, k3, hf⟩ := zb_some hf
  refine z_callVv dX12_readPlan_10 tM_12_204 mt_12009 (Nat.le_of_ble_eq_true rfl) rfl rfl (z_recv hE dr_41 rfl) rfl (ia_oks_le hn1 rfl) (Nat.le_of_ble_eq_true rfl) (w_X12_starts hn1 hn2 (d + 5) (by decide) hE k3) (fun h hE => ?_)
  refine z_iconst (v := 0) dX12_readPlan_13 (by decide) ?_
  refine z_istore_n (lv' := [(1, .int 0), (0, .ref 41)]) dX12_readPlan_14 (by decide) rfl ?_
  refine z_iconst (v := 1) dX12_readPlan_15 (by decide) ?_
  refine z_istore_n (lv' := [(2, .int 1), (1, .int 0), (0, .ref 41)]) dX12_readPlan_16 (by decide) rfl ?_
  refine zW.sub (w_X12_readPlan_L17 hn1 hn2 d (fun q28 q29 S27 h hE hf => ?_) zN 0 1 S1 h hE hf) [2, 1, 0] rfl rfl rfl rfl
  try dsimp only at hf
  refine z_aload_n dX12_readPlan_94 rfl ?_
  refine z_getC dX12_readPlan_95 tF_12_58 hE dr_41 rfl rfl ?_
  refine z_iconst (v := 4) dX12_readPlan_98 (by decide) ?_
  refine z_iload_n dX12_readPlan_99 rfl ?_
  obtain ⟨S30, eS30, hf⟩ := zl_some hf
  refine z_iastoreL (i := 4) dX12_readPlan_100 hE dr_53 (by decide) (by decide) (fun h hE => ?_)
  rw [← eS30] at hE
  refine z_aload_n dX12_readPlan_101 rfl ?_
  obtain ⟨r32, S31, k33, hf⟩ := zb_some hf
  refine z_callVi dX12_readPlan_102 tM_12_135 mt_12011 (Nat.le_of_ble_eq_true rfl) rfl rfl (z_recv hE dr_41 rfl) rfl (ia_oks_le hn1 rfl) (Nat.le_of_ble_eq_true rfl) (w_X12_look hn1 hn2 (d + 5) hE k33) (fun h hE => ?_)
  refine z_iconst (v := (-1)) dX12_readPlan_105 (by decide) ?_
  by_cases c34 : r32 = (-1)
  · have hf := zif_t hf c34
    refine z_icmp_eq_t (tgt := 114) dX12_readPlan_106 (by decide) c34 ?_
    have e_ := Option.some.inj hf
    subst e_
    exact z_vreturn dX12_readPlan_114 rfl ⟨h, rfl, rfl, hE⟩
  · have hf := zif_f hf c34
    refine z_icmp_eq_f (tgt := 114) dX12_readPlan_106 (by decide) c34 ?_
    refine z_aload_n dX12_readPlan_109 rfl ?_
    obtain ⟨r36, S35, k37, hf⟩ := zb_some hf
    refine z_callVi dX12_readPlan_110 tM_12_131 mt_12012 (Nat.le_of_ble_eq_true rfl) rfl rfl (z_recv hE dr_41 rfl) rfl (ia_oks_le hn1 rfl) (Nat.le_of_ble_eq_true rfl) (w_X12_fails hn1 hn2 (d + 5) hE k37) (fun h hE => ?_)
    refine z_pop dX12_readPlan_113 rfl ?_
    have e_ := Option.some.inj hf
    subst e_
    exact z_vreturn dX12_readPlan_114 rfl ⟨h, rfl, rfl, hE⟩
end ZX
