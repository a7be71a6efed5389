section ZX
def f_X2_lawWorth_L7 (a : Nat) (ex : Int32 → Int32 → Int32 → zS → Option (Int32 × zS))  : Nat → Int32 → Int32 → Int32 → zS → Option (Int32 × zS)
  | 0, _, _, _, _ => none
  | k + 1, x2, x3, x4, S =>
    if (Int32.ofNat (S.2.2.1 a)) ≤ x4 then
    ex x2 x3 x4 S
    else
    if ia_in x4 (S.2.2.1 a) = true then
    zl (S.1 a x4.toNatClampNeg) fun (y3 : Int32) =>
    zl (fun (q7 : Int32) (q8 : Int32) (S6 : zS) =>
    zl (x4 + 1) fun (y9 : Int32) =>
    f_X2_lawWorth_L7 a ex k q7 q8 y9 S6) fun J5 =>
    if x3 = 0 then
    if ¬ y3 = 59 then
    if ¬ y3 = 63 then
    if y3 < 1000 then
    if ¬ y3 = 33 then
    if x2 < 2 then
    J5 x2 x3 S
    else
    zl (x2 + (-1)) fun (y15 : Int32) =>
    if ia_in (y15 - 1) 64 = true then
    if ia_in y15 64 = true then
    zb (f_X2_joined y3 (S.1 16 (y15 - 1).toNatClampNeg) (S.1 16 y15.toNatClampNeg) S) fun r19 S18 =>
    if ia_in (y15 - 1) 64 = true then
    zl (sV S18 16 ((y15 - 1).toNatClampNeg) r19) fun S22 =>
    J5 y15 x3 S22
    else none
    else none
    else none
    else
    if x2 < 1 then
    J5 x2 x3 S
    else
    if ia_in (x2 - 1) 64 = true then
    if ia_in (x2 - 1) 64 = true then
    zl (sV S 16 ((x2 - 1).toNatClampNeg) (1 - (S.1 16 (x2 - 1).toNatClampNeg))) fun S26 =>
    J5 x2 x3 S26
    else none
    else none
    else
    if 64 ≤ x2 then
    J5 x2 x3 S
    else
    zb (f_X2_valueOf y3 S) fun r29 S28 =>
    if ia_in x2 64 = true then
    zl (sV S28 16 (x2.toNatClampNeg) r29) fun S32 =>
    zl (x2 + 1) fun (y33 : Int32) =>
    J5 y33 x3 S32
    else none
    else
    zl (fun (q36 : Int32) =>
    J5 0 q36 S) fun J35 =>
    if ¬ (S.1 16 0) = 0 then
    J35 0
    else
    J35 1
    else
    some (S.1 16 0, S)
    else
    zl (fun (q39 : Int32) =>
    J5 x2 q39 S) fun J38 =>
    if y3 = 59 then
    J38 0
    else
    J38 1
    else none
def f_X2_lawWorth (a : Nat) (S : zS) : Option (Int32 × zS) :=
f_X2_lawWorth_L7 a (fun (q41 : Int32) (q42 : Int32) (q43 : Int32) (S40 : zS) =>
some (0, S40))  zN 0 0 0 S
theorem w_X2_lawWorth_L7 {L : Nat} {xs : Nat → Int32} {fm : Bool} {h0 : Nat → va_E} {t : Nat × Nat × Nat} (hn1 : 64 ≤ t.1) (hn2 : t.1 ≤ 1000000) (d : Nat) {a : Nat} (hda : 64 ≤ a ∧ a < t.1) {ex : Int32 → Int32 → Int32 → zS → Option (Int32 × zS)} {R : Int32 × zS} (hex : ∀ (x2 : Int32) (x3 : Int32) (x4 : Int32) (S : zS) (h : Nat → va_E), zE (zDc t.1) h0 S (h, t) → ex x2 x3 x4 S = some R → zW (ia_P0 L xs fm) ia_nx (d + 1) 2 false cX2_lawWorth 6 (some .int) 190 [(0, .ref 14), (1, .ref a), (2, .int x2), (3, .int x3), (4, .int x4)] [] (h, t) (zQi (zDc t.1) h0 t R)) : ∀ (k : Nat) (x2 : Int32) (x3 : Int32) (x4 : Int32) (S : zS) (h : Nat → va_E), zE (zDc t.1) h0 S (h, t) → f_X2_lawWorth_L7 a ex  k x2 x3 x4 S = some R → zW (ia_P0 L xs fm) ia_nx (d + 1) 2 false cX2_lawWorth 6 (some .int) 7 [(0, .ref 14), (1, .ref a), (2, .int x2), (3, .int x3), (4, .int x4)] [] (h, t) (zQi (zDc t.1) h0 t R) := by
  intro k
  induction k with
  | zero => intro x2 x3 x4 S h hE hf; cases hf
  | succ k ih =>
    intro x2 x3 x4 S h hE hf
    unfold f_X2_lawWorth_L7 at hf
    refine z_iload dX2_lawWorth_7 rfl ?_
    refine z_aload_n dX2_lawWorth_9 rfl ?_
    refine z_alenD dX2_lawWorth_10 hE (dc_dyn hda) ?_
    by_cases c1 : (Int32.ofNat (S.2.2.1 a)) ≤ x4
    · have hf := zif_t hf c1
      refine z_icmp_ge_t (tgt := 190) dX2_lawWorth_11 (by decide) c1 ?_
      exact zW.sub (hex x2 x3 x4 S _ hE hf) [0, 1, 2, 3, 4] rfl rfl rfl rfl
    · have hf := zif_f hf c1
      refine z_icmp_ge_f (tgt := 190) dX2_lawWorth_11 (by decide) c1 ?_
      refine z_aload_n dX2_lawWorth_14 rfl ?_
      refine z_iload dX2_lawWorth_15 rfl ?_
      obtain ⟨b2, hf⟩ := zchk hf
      refine z_ialoadD dX2_lawWorth_17 hE (dc_dyn hda) b2 ?_
      obtain ⟨y3, ey3, hf⟩ := zl_some hf
      refine z_topi ey3 ?_
      refine z_istore (lv' := [(5, .int y3), (0, .ref 14), (1, .ref a), (2, .int x2), (3, .int x3), (4, .int x4)]) dX2_lawWorth_18 (by decide) rfl ?_
      refine z_iload_n dX2_lawWorth_20 rfl ?_
      obtain ⟨J5, eJ5, hf⟩ := zl_some hf
      have hJ5 : ∀ (q7 : Int32) (q8 : Int32) (S6 : zS) (h : Nat → va_E), zE (zDc t.1) h0 S6 (h, t) → J5 q7 q8 S6 = some R → zW (ia_P0 L xs fm) ia_nx (d + 1) 2 false cX2_lawWorth 6 (some .int) 184 [(0, .ref 14), (1, .ref a), (2, .int q7), (3, .int q8), (4, .int x4), (5, .int y3)] [] (h, t) (zQi (zDc t.1) h0 t R) := by
        intro q7 q8 S6 h hE hf
        rw [eJ5] at hf
        obtain ⟨y9, ey9, hf⟩ := zl_some hf
        refine z_iincY (v := 1) (y := y9) (lv' := [(4, .int y9), (0, .ref 14), (1, .ref a), (2, .int q7), (3, .int q8), (5, .int y3)]) dX2_lawWorth_184 rfl (by decide) (by decide) ey9 rfl ?_
        refine z_goto (tgt := 7) dX2_lawWorth_187 (by decide) ?_
        exact zW.sub (ih q7 q8 y9 S6 _ hE hf) [1, 2, 3, 4, 0] rfl rfl rfl rfl
      by_cases c4 : x3 = 0
      · have hf := zif_t hf c4
        refine z_if_eq_t (tgt := 40) dX2_lawWorth_21 (by decide) c4 ?_
        refine z_iload dX2_lawWorth_40 rfl ?_
        refine z_bipush (v := 59) dX2_lawWorth_42 (by decide) ?_
        by_cases c10 : ¬ y3 = 59
        · have hf := zif_t hf c10
          refine z_icmp_ne_t (tgt := 54) dX2_lawWorth_44 (by decide) c10 ?_
          refine z_iload dX2_lawWorth_54 rfl ?_
          refine z_bipush (v := 63) dX2_lawWorth_56 (by decide) ?_
          by_cases c11 : ¬ y3 = 63
          · have hf := zif_t hf c11
            refine z_icmp_ne_t (tgt := 81) dX2_lawWorth_58 (by decide) c11 ?_
            refine z_iload dX2_lawWorth_81 rfl ?_
            refine z_sipush (v := 1000) dX2_lawWorth_83 (by decide) ?_
            by_cases c12 : y3 < 1000
            · have hf := zif_t hf c12
              refine z_icmp_lt_t (tgt := 116) dX2_lawWorth_86 (by decide) c12 ?_
              refine z_iload dX2_lawWorth_116 rfl ?_
              refine z_bipush (v := 33) dX2_lawWorth_118 (by decide) ?_
              by_cases c13 : ¬ y3 = 33
              · have hf := zif_t hf c13
                refine z_icmp_ne_t (tgt := 149) dX2_lawWorth_120 (by decide) c13 ?_
                refine z_iload_n dX2_lawWorth_149 rfl ?_
                refine z_iconst (v := 2) dX2_lawWorth_150 (by decide) ?_
                by_cases c14 : x2 < 2
                · have hf := zif_t hf c14
                  refine z_icmp_lt_t (tgt := 184) dX2_lawWorth_151 (by decide) c14 ?_
                  exact zW.sub (hJ5 x2 x3 S _ hE hf) [1, 2, 3, 4, 5, 0] rfl rfl rfl rfl
                · have hf := zif_f hf c14
                  refine z_icmp_lt_f (tgt := 184) dX2_lawWorth_151 (by decide) c14 ?_
                  obtain ⟨y15, ey15, hf⟩ := zl_some hf
                  refine z_iincY (v := (-1)) (y := y15) (lv' := [(2, .int y15), (5, .int y3), (0, .ref 14), (1, .ref a), (3, .int x3), (4, .int x4)]) dX2_lawWorth_154 rfl (by decide) (by decide) ey15 rfl ?_
                  refine z_aload_n dX2_lawWorth_157 rfl ?_
                  refine z_getC dX2_lawWorth_158 tF_2_15 hE dc_14 rfl rfl ?_
                  refine z_iload_n dX2_lawWorth_161 rfl ?_
                  refine z_iconst (v := 1) dX2_lawWorth_162 (by decide) ?_
                  refine z_isub dX2_lawWorth_163 ?_
                  refine z_iload dX2_lawWorth_164 rfl ?_
                  refine z_aload_n dX2_lawWorth_166 rfl ?_
                  refine z_getC dX2_lawWorth_167 tF_2_15 hE dc_14 rfl rfl ?_
                  refine z_iload_n dX2_lawWorth_170 rfl ?_
                  refine z_iconst (v := 1) dX2_lawWorth_171 (by decide) ?_
                  refine z_isub dX2_lawWorth_172 ?_
                  obtain ⟨b16, hf⟩ := zchk hf
                  refine z_ialoadL dX2_lawWorth_173 hE dc_16 b16 rfl ?_
                  refine z_aload_n dX2_lawWorth_174 rfl ?_
                  refine z_getC dX2_lawWorth_175 tF_2_15 hE dc_14 rfl rfl ?_
                  refine z_iload_n dX2_lawWorth_178 rfl ?_
                  obtain ⟨b17, hf⟩ := zchk hf
                  refine z_ialoadL dX2_lawWorth_179 hE dc_16 b17 rfl ?_
                  obtain ⟨r19, S18, k20, hf⟩ := zb_some hf
                  refine z_callSi dX2_lawWorth_180 tM_2_22 (by decide) mt_2004 (Nat.le_of_ble_eq_true rfl) rfl rfl (by have q0 : 14 < t.1 := Nat.lt_of_lt_of_le (by decide) hn1; have q1 : a < t.1 := hda.2; have q2 : 16 < t.1 := Nat.lt_of_lt_of_le (by decide) hn1; simp [ia_oks, ia_okv, q0, q1, q2]) (Nat.le_of_ble_eq_true rfl) (w_X2_joined hn1 hn2 (d + 0) hE k20) (fun h hE => ?_)
                  obtain ⟨b21, hf⟩ := zchk hf
                  obtain ⟨S22, eS22, hf⟩ := zl_some hf
                  refine z_iastoreL (i := (y15 - 1).toNatClampNeg) dX2_lawWorth_183 hE dc_16 b21 rfl (fun h hE => ?_)
                  rw [← eS22] at hE
                  exact zW.sub (hJ5 y15 x3 S22 _ hE hf) [2, 3, 0, 4, 5, 1] rfl rfl rfl rfl
              · have hf := zif_f hf c13
                refine z_icmp_ne_f (tgt := 149) dX2_lawWorth_120 (by decide) c13 ?_
                refine z_iload_n dX2_lawWorth_123 rfl ?_
                refine z_iconst (v := 1) dX2_lawWorth_124 (by decide) ?_
                by_cases c23 : x2 < 1
                · have hf := zif_t hf c23
                  refine z_icmp_lt_t (tgt := 184) dX2_lawWorth_125 (by decide) c23 ?_
                  exact zW.sub (hJ5 x2 x3 S _ hE hf) [1, 2, 3, 4, 5, 0] rfl rfl rfl rfl
                · have hf := zif_f hf c23
                  refine z_icmp_lt_f (tgt := 184) dX2_lawWorth_125 (by decide) c23 ?_
                  refine z_aload_n dX2_lawWorth_128 rfl ?_
                  refine z_getC dX2_lawWorth_129 tF_2_15 hE dc_14 rfl rfl ?_
                  refine z_iload_n dX2_lawWorth_132 rfl ?_
                  refine z_iconst (v := 1) dX2_lawWorth_133 (by decide) ?_
                  refine z_isub dX2_lawWorth_134 ?_
                  refine z_iconst (v := 1) dX2_lawWorth_135 (by decide) ?_
                  refine z_aload_n dX2_lawWorth_136 rfl ?_
                  refine z_getC dX2_lawWorth_137 tF_2_15 hE dc_14 rfl rfl ?_
                  refine z_iload_n dX2_lawWorth_140 rfl ?_
                  refine z_iconst (v := 1) dX2_lawWorth_141 (by decide) ?_
                  refine z_isub dX2_lawWorth_142 ?_
                  obtain ⟨b24, hf⟩ := zchk hf
                  refine z_ialoadL dX2_lawWorth_143 hE dc_16 b24 rfl ?_
                  refine z_isub dX2_lawWorth_144 ?_
                  obtain ⟨b25, hf⟩ := zchk hf
                  obtain ⟨S26, eS26, hf⟩ := zl_some hf
                  refine z_iastoreL (i := (x2 - 1).toNatClampNeg) dX2_lawWorth_145 hE dc_16 b25 rfl (fun h hE => ?_)
                  rw [← eS26] at hE
                  refine z_goto (tgt := 184) dX2_lawWorth_146 (by decide) ?_
                  exact zW.sub (hJ5 x2 x3 S26 _ hE hf) [1, 2, 3, 4, 5, 0] rfl rfl rfl rfl
            · have hf := zif_f hf c12
              refine z_icmp_lt_f (tgt := 116) dX2_lawWorth_86 (by decide) c12 ?_
              refine z_iload_n dX2_lawWorth_89 rfl ?_
              refine z_aload_n dX2_lawWorth_90 rfl ?_
              refine z_getC dX2_lawWorth_91 tF_2_15 hE dc_14 rfl rfl ?_
              refine z_alen (v := 64) dX2_lawWorth_94 hE dc_16 (by decide) (by decide) ?_
              by_cases c27 : 64 ≤ x2
              · have hf := zif_t hf c27
                refine z_icmp_ge_t (tgt := 184) dX2_lawWorth_95 (by decide) c27 ?_
                exact zW.sub (hJ5 x2 x3 S _ hE hf) [1, 2, 3, 4, 5, 0] rfl rfl rfl rfl
              · have hf := zif_f hf c27
                refine z_icmp_ge_f (tgt := 184) dX2_lawWorth_95 (by decide) c27 ?_
                refine z_aload_n dX2_lawWorth_98 rfl ?_
                refine z_getC dX2_lawWorth_99 tF_2_15 hE dc_14 rfl rfl ?_
                refine z_iload_n dX2_lawWorth_102 rfl ?_
                refine z_aload_n dX2_lawWorth_103 rfl ?_
                refine z_iload dX2_lawWorth_104 rfl ?_
                obtain ⟨r29, S28, k30, hf⟩ := zb_some hf
                refine z_callVi dX2_lawWorth_106 tM_2_18 mt_2003 (Nat.le_of_ble_eq_true rfl) rfl rfl (z_recv hE dc_14 rfl) rfl (by have q0 : 14 < t.1 := Nat.lt_of_lt_of_le (by decide) hn1; have q1 : a < t.1 := hda.2; have q2 : 16 < t.1 := Nat.lt_of_lt_of_le (by decide) hn1; simp [ia_oks, ia_okv, q0, q1, q2]) (Nat.le_of_ble_eq_true rfl) (w_X2_valueOf hn1 hn2 (d + 0) hE k30) (fun h hE => ?_)
                obtain ⟨b31, hf⟩ := zchk hf
                obtain ⟨S32, eS32, hf⟩ := zl_some hf
                refine z_iastoreL (i := x2.toNatClampNeg) dX2_lawWorth_109 hE dc_16 b31 rfl (fun h hE => ?_)
                rw [← eS32] at hE
                obtain ⟨y33, ey33, hf⟩ := zl_some hf
                refine z_iincY (v := 1) (y := y33) (lv' := [(2, .int y33), (5, .int y3), (0, .ref 14), (1, .ref a), (3, .int x3), (4, .int x4)]) dX2_lawWorth_110 rfl (by decide) (by decide) ey33 rfl ?_
                refine z_goto (tgt := 184) dX2_lawWorth_113 (by decide) ?_
                exact zW.sub (hJ5 y33 x3 S32 _ hE hf) [2, 3, 0, 4, 5, 1] rfl rfl rfl rfl
          · have hf := zif_f hf c11
            refine z_icmp_ne_f (tgt := 81) dX2_lawWorth_58 (by decide) c11 ?_
            refine z_aload_n dX2_lawWorth_61 rfl ?_
            refine z_getC dX2_lawWorth_62 tF_2_15 hE dc_14 rfl rfl ?_
            refine z_iconst (v := 0) dX2_lawWorth_65 (by decide) ?_
            refine z_ialoadL (i := 0) dX2_lawWorth_66 hE dc_16 (by decide) (by decide) ?_
            obtain ⟨J35, eJ35, hf⟩ := zl_some hf
            have hJ35 : ∀ (q36 : Int32) (h : Nat → va_E), zE (zDc t.1) h0 S (h, t) → J35 q36 = some R → zW (ia_P0 L xs fm) ia_nx (d + 1) 2 false cX2_lawWorth 6 (some .int) 75 [(0, .ref 14), (1, .ref a), (2, .int x2), (3, .int x3), (4, .int x4), (5, .int y3)] [.int q36] (h, t) (zQi (zDc t.1) h0 t R) := by
              intro q36 h hE hf
              rw [eJ35] at hf
              refine z_istore_n (lv' := [(3, .int q36), (0, .ref 14), (1, .ref a), (2, .int x2), (4, .int x4), (5, .int y3)]) dX2_lawWorth_75 (by decide) rfl ?_
              refine z_iconst (v := 0) dX2_lawWorth_76 (by decide) ?_
              refine z_istore_n (lv' := [(2, .int 0), (3, .int q36), (0, .ref 14), (1, .ref a), (4, .int x4), (5, .int y3)]) dX2_lawWorth_77 (by decide) rfl ?_
              refine z_goto (tgt := 184) dX2_lawWorth_78 (by decide) ?_
              exact zW.sub (hJ5 0 q36 S _ hE hf) [2, 3, 0, 1, 4, 5] rfl rfl rfl rfl
            by_cases c34 : ¬ (S.1 16 0) = 0
            · have hf := zif_t hf c34
              refine z_if_ne_t (tgt := 74) dX2_lawWorth_67 (by decide) c34 ?_
              refine z_iconst (v := 0) dX2_lawWorth_74 (by decide) ?_
              exact zW.sub (hJ35 0 _ hE hf) [1, 2, 3, 4, 5, 0] rfl rfl rfl rfl
            · have hf := zif_f hf c34
              refine z_if_ne_f (tgt := 74) dX2_lawWorth_67 (by decide) c34 ?_
              refine z_iconst (v := 1) dX2_lawWorth_70 (by decide) ?_
              refine z_goto (tgt := 75) dX2_lawWorth_71 (by decide) ?_
              exact zW.sub (hJ35 1 _ hE hf) [1, 2, 3, 4, 5, 0] rfl rfl rfl rfl
        · have hf := zif_f hf c10
          refine z_icmp_ne_f (tgt := 54) dX2_lawWorth_44 (by decide) c10 ?_
          refine z_aload_n dX2_lawWorth_47 rfl ?_
          refine z_getC dX2_lawWorth_48 tF_2_15 hE dc_14 rfl rfl ?_
          refine z_iconst (v := 0) dX2_lawWorth_51 (by decide) ?_
          refine z_ialoadL (i := 0) dX2_lawWorth_52 hE dc_16 (by decide) (by decide) ?_
          have e_ := Option.some.inj hf
          subst e_
          exact z_ireturn dX2_lawWorth_53 rfl ⟨h, rfl, rfl, hE⟩
      · have hf := zif_f hf c4
        refine z_if_eq_f (tgt := 40) dX2_lawWorth_21 (by decide) c4 ?_
        refine z_iload dX2_lawWorth_24 rfl ?_
        refine z_bipush (v := 59) dX2_lawWorth_26 (by decide) ?_
        obtain ⟨J38, eJ38, hf⟩ := zl_some hf
        have hJ38 : ∀ (q39 : Int32) (h : Nat → va_E), zE (zDc t.1) h0 S (h, t) → J38 q39 = some R → zW (ia_P0 L xs fm) ia_nx (d + 1) 2 false cX2_lawWorth 6 (some .int) 36 [(0, .ref 14), (1, .ref a), (2, .int x2), (3, .int x3), (4, .int x4), (5, .int y3)] [.int q39] (h, t) (zQi (zDc t.1) h0 t R) := by
          intro q39 h hE hf
          rw [eJ38] at hf
          refine z_istore_n (lv' := [(3, .int q39), (0, .ref 14), (1, .ref a), (2, .int x2), (4, .int x4), (5, .int y3)]) dX2_lawWorth_36 (by decide) rfl ?_
          refine z_goto (tgt := 184) dX2_lawWorth_37 (by decide) ?_
          exact zW.sub (hJ5 x2 q39 S _ hE hf) [1, 2, 3, 0, 4, 5] rfl rfl rfl rfl
        by_cases c37 : y3 = 59
        · have hf := zif_t hf c37
          refine z_icmp_eq_t (tgt := 35) dX2_lawWorth_28 (by decide) c37 ?_
          refine z_iconst (v := 0) dX2_lawWorth_35 (by decide) ?_
          exact zW.sub (hJ38 0 _ hE hf) [1, 2, 3, 4, 5, 0] rfl rfl rfl rfl
        · have hf := zif_f hf c37
          refine z_icmp_eq_f (tgt := 35) dX2_lawWorth_28 (by decide) c37 ?_
          refine z_iconst (v := 1) dX2_lawWorth_31 (by decide) ?_
          refine z_goto (tgt := 36) dX2_lawWorth_32 (by decide) ?_
          exact zW.sub (hJ38 1 _ hE hf) [1, 2, 3, 4, 5, 0] rfl rfl rfl rfl
theorem w_X2_lawWorth {L : Nat} {xs : Nat → Int32} {fm : Bool} {h0 : Nat → va_E} {t : Nat × Nat × Nat} (hn1 : 64 ≤ t.1) (hn2 : t.1 ≤ 1000000) (d : Nat) {a : Nat} (hda : 64 ≤ a ∧ a < t.1) {h : Nat → va_E} {S : zS} (hE : zE (zDc t.1) h0 S (h, t)) {R : Int32 × zS} (hf : f_X2_lawWorth a S = some R) : zC (ia_P0 L xs fm) (d + 2) 2002 [.ref 14, .ref a] (h, t) (zQi (zDc t.1) h0 t R) := by
  refine zC_of mt_2002 nn_2002 (Nat.le_of_ble_eq_true rfl) ?_
  refine zW_lv (lv' := [(0, .ref 14), (1, .ref a)]) rfl ?_
  unfold f_X2_lawWorth at hf
  refine z_iconst (v := 0) dX2_lawWorth_0 (by decide) ?_
  refine z_istore_n (lv' := [(2, .int 0), (0, .ref 14), (1, .ref a)]) dX2_lawWorth_1 (by decide) rfl ?_
  refine z_iconst (v := 0) dX2_lawWorth_2 (by decide) ?_
  refine z_istore_n (lv' := [(3, .int 0), (2, .int 0), (0, .ref 14), (1, .ref a)]) dX2_lawWorth_3 (by decide) rfl ?_
  refine z_iconst (v := 0) dX2_lawWorth_4 (by decide) ?_
  refine z_istore (lv' := [(4, .int 0), (3, .int 0), (2, .int 0), (0, .ref 14), (1, .ref a)]) dX2_lawWorth_5 (by decide) rfl ?_
  refine zW.sub (w_X2_lawWorth_L7 hn1 hn2 d hda (fun q41 q42 q43 S40 h hE hf => ?_) zN 0 0 0 S h hE hf) [3, 4, 2, 1, 0] rfl rfl rfl rfl
  try dsimp only at hf
  refine z_iconst (v := 0) dX2_lawWorth_190 (by decide) ?_
  have e_ := Option.some.inj hf
  subst e_
  exact z_ireturn dX2_lawWorth_191 rfl ⟨h, rfl, rfl, hE⟩
def f_X7_gripOn (o : Nat) (v1 : Int32) (v2 : Int32) (v3 : Int32) (S : zS) : Option (Int32 × zS) :=
zb (f_X7_handCell o v1 0 S) fun r2 S1 =>
zl (sV S1 15 0 r2) fun S4 =>
zb (f_X10_item 1 v1 1 S4) fun r6 S5 =>
zl (sV S5 15 1 r6) fun S8 =>
zb (f_X7_handCell o v1 1 S8) fun r10 S9 =>
zl (sV S9 15 2 r10) fun S12 =>
zb (f_X10_item 0 v3 4 S12) fun r14 S13 =>
zl (sV S13 15 3 r14) fun S16 =>
zb (f_X7_jarCell o v3 2 S16) fun r18 S17 =>
zl (sV S17 15 4 r18) fun S20 =>
zl (fun (q24 : Int32) (S23 : zS) =>
zl (sV S23 15 5 q24) fun S25 =>
zkr (S25.2.1 14 2) (
zb (f_X2_plainWorth S25) fun r28 S27 =>
if 0 ≤ r28 then
if r28 ≤ 999 then
some (r28, S27)
else
some (999, S27)
else
some (0, S27)) fun a26 =>
if 64 ≤ a26 ∧ a26 < S25.2.2.2 then
zb (f_X2_lawWorth a26 S25) fun r33 S32 =>
if 0 ≤ r33 then
if r33 ≤ 999 then
some (r33, S32)
else
some (999, S32)
else
some (0, S32)
else none) fun J22 =>
if ¬ v2 = (-1) then
zb (f_X10_item 2 v2 0 S20) fun r38 S37 =>
J22 r38 S37
else
J22 0 S20
theorem w_X7_gripOn {L : Nat} {xs : Nat → Int32} {fm : Bool} {h0 : Nat → va_E} {t : Nat × Nat × Nat} (hn1 : 64 ≤ t.1) (hn2 : t.1 ≤ 1000000) (d : Nat) {o : Nat} (ho_o : zSc t.1 o) {h : Nat → va_E} {S : zS} (hE : zE (zDc t.1) h0 S (h, t)) {v1 : Int32} {v2 : Int32} {v3 : Int32} {R : Int32 × zS} (hf : f_X7_gripOn o v1 v2 v3 S = some R) : zC (ia_P0 L xs fm) (d + 3) 7006 [.ref o, .int v1, .int v2, .int v3] (h, t) (zQi (zDc t.1) h0 t R) := by
  refine zC_of mt_7006 nn_7006 (Nat.le_of_ble_eq_true rfl) ?_
  refine zW_lv (lv' := [(0, .ref o), (1, .int v1), (2, .int v2), (3, .int v3)]) rfl ?_
  unfold f_X7_gripOn at hf
  refine z_aload_n dX7_gripOn_0 rfl ?_
  refine z_getC dX7_gripOn_1 tF_7_19 hE ho_o.1 rfl rfl ?_
  refine z_getC dX7_gripOn_4 tF_7_71 hE dc_14 rfl rfl ?_
  refine z_astore (lv' := [(4, .ref 15), (0, .ref o), (1, .int v1), (2, .int v2), (3, .int v3)]) dX7_gripOn_7 (by decide) rfl ?_
  refine z_aload dX7_gripOn_9 rfl ?_
  refine z_iconst (v := 0) dX7_gripOn_11 (by decide) ?_
  refine z_aload_n dX7_gripOn_12 rfl ?_
  refine z_iload_n dX7_gripOn_13 rfl ?_
  refine z_iconst (v := 0) dX7_gripOn_14 (by decide) ?_
  obtain ⟨r2, S1, k3, hf⟩ := zb_some hf
  refine z_callVi dX7_gripOn_15 tM_7_76 mt_7003 (Nat.le_of_ble_eq_true rfl) rfl rfl (z_recv hE ho_o.1 rfl) rfl (by have q0 : 15 < t.1 := Nat.lt_of_lt_of_le (by decide) hn1; have q1 : o < t.1 := Nat.lt_of_lt_of_le ho_o.2.2 (Nat.le_trans (by decide) hn1); simp [ia_oks, ia_okv, q0, q1]) (Nat.le_of_ble_eq_true rfl) (w_X7_handCell hn1 hn2 (d + 1) ho_o hE k3) (fun h hE => ?_)
  obtain ⟨S4, eS4, hf⟩ := zl_some hf
  refine z_iastoreL (i := 0) dX7_gripOn_18 hE dc_15 (by decide) (by decide) (fun h hE => ?_)
  rw [← eS4] at hE
  refine z_aload dX7_gripOn_19 rfl ?_
  refine z_iconst (v := 1) dX7_gripOn_21 (by decide) ?_
  refine z_aload_n dX7_gripOn_22 rfl ?_
  refine z_getC dX7_gripOn_23 tF_7_15 hE ho_o.1 rfl rfl ?_
  refine z_iconst (v := 1) dX7_gripOn_26 (by decide) ?_
  refine z_iload_n dX7_gripOn_27 rfl ?_
  refine z_iconst (v := 1) dX7_gripOn_28 (by decide) ?_
  obtain ⟨r6, S5, k7, hf⟩ := zb_some hf
  refine z_callVi dX7_gripOn_29 tM_7_34 mt_10004 (Nat.le_of_ble_eq_true rfl) rfl rfl (z_recv hE dc_11 rfl) rfl (by have q0 : 15 < t.1 := Nat.lt_of_lt_of_le (by decide) hn1; have q1 : o < t.1 := Nat.lt_of_lt_of_le ho_o.2.2 (Nat.le_trans (by decide) hn1); simp [ia_oks, ia_okv, q0, q1]) (Nat.le_of_ble_eq_true rfl) (w_X10_item hn1 hn2 (d + 0) hE k7) (fun h hE => ?_)
  obtain ⟨S8, eS8, hf⟩ := zl_some hf
  refine z_iastoreL (i := 1) dX7_gripOn_32 hE dc_15 (by decide) (by decide) (fun h hE => ?_)
  rw [← eS8] at hE
  refine z_aload dX7_gripOn_33 rfl ?_
  refine z_iconst (v := 2) dX7_gripOn_35 (by decide) ?_
  refine z_aload_n dX7_gripOn_36 rfl ?_
  refine z_iload_n dX7_gripOn_37 rfl ?_
  refine z_iconst (v := 1) dX7_gripOn_38 (by decide) ?_
  obtain ⟨r10, S9, k11, hf⟩ := zb_some hf
  refine z_callVi dX7_gripOn_39 tM_7_76 mt_7003 (Nat.le_of_ble_eq_true rfl) rfl rfl (z_recv hE ho_o.1 rfl) rfl (by have q0 : 15 < t.1 := Nat.lt_of_lt_of_le (by decide) hn1; have q1 : o < t.1 := Nat.lt_of_lt_of_le ho_o.2.2 (Nat.le_trans (by decide) hn1); simp [ia_oks, ia_okv, q0, q1]) (Nat.le_of_ble_eq_true rfl) (w_X7_handCell hn1 hn2 (d + 1) ho_o hE k11) (fun h hE => ?_)
  obtain ⟨S12, eS12, hf⟩ := zl_some hf
  refine z_iastoreL (i := 2) dX7_gripOn_42 hE dc_15 (by decide) (by decide) (fun h hE => ?_)
  rw [← eS12] at hE
  refine z_aload dX7_gripOn_43 rfl ?_
  refine z_iconst (v := 3) dX7_gripOn_45 (by decide) ?_
  refine z_aload_n dX7_gripOn_46 rfl ?_
  refine z_getC dX7_gripOn_47 tF_7_15 hE ho_o.1 rfl rfl ?_
  refine z_iconst (v := 0) dX7_gripOn_50 (by decide) ?_
  refine z_iload_n dX7_gripOn_51 rfl ?_
  refine z_iconst (v := 4) dX7_gripOn_52 (by decide) ?_
  obtain ⟨r14, S13, k15, hf⟩ := zb_some hf
  refine z_callVi dX7_gripOn_53 tM_7_34 mt_10004 (Nat.le_of_ble_eq_true rfl) rfl rfl (z_recv hE dc_11 rfl) rfl (by have q0 : 15 < t.1 := Nat.lt_of_lt_of_le (by decide) hn1; have q1 : o < t.1 := Nat.lt_of_lt_of_le ho_o.2.2 (Nat.le_trans (by decide) hn1); simp [ia_oks, ia_okv, q0, q1]) (Nat.le_of_ble_eq_true rfl) (w_X10_item hn1 hn2 (d + 0) hE k15) (fun h hE => ?_)
  obtain ⟨S16, eS16, hf⟩ := zl_some hf
  refine z_iastoreL (i := 3) dX7_gripOn_56 hE dc_15 (by decide) (by decide) (fun h hE => ?_)
  rw [← eS16] at hE
  refine z_aload dX7_gripOn_57 rfl ?_
  refine z_iconst (v := 4) dX7_gripOn_59 (by decide) ?_
  refine z_aload_n dX7_gripOn_60 rfl ?_
  refine z_iload_n dX7_gripOn_61 rfl ?_
  refine z_iconst (v := 2) dX7_gripOn_62 (by decide) ?_
  obtain ⟨r18, S17, k19, hf⟩ := zb_some hf
  refine z_callVi dX7_gripOn_63 tM_7_68 mt_7007 (Nat.le_of_ble_eq_true rfl) rfl rfl (z_recv hE ho_o.1 rfl) rfl (by have q0 : 15 < t.1 := Nat.lt_of_lt_of_le (by decide) hn1; have q1 : o < t.1 := Nat.lt_of_lt_of_le ho_o.2.2 (Nat.le_trans (by decide) hn1); simp [ia_oks, ia_okv, q0, q1]) (Nat.le_of_ble_eq_true rfl) (w_X7_jarCell hn1 hn2 (d + 1) ho_o hE k19) (fun h hE => ?_)
  obtain ⟨S20, eS20, hf⟩ := zl_some hf
  refine z_iastoreL (i := 4) dX7_gripOn_66 hE dc_15 (by decide) (by decide) (fun h hE => ?_)
  rw [← eS20] at hE
  refine z_aload dX7_gripOn_67 rfl ?_
  refine z_iconst (v := 5) dX7_gripOn_69 (by decide) ?_
  refine z_iload_n dX7_gripOn_70 rfl ?_
  refine z_iconst (v := (-1)) dX7_gripOn_71 (by decide) ?_
  obtain ⟨J22, eJ22, hf⟩ := zl_some hf
  have hJ22 : ∀ (q24 : Int32) (S23 : zS) (h : Nat → va_E), zE (zDc t.1) h0 S23 (h, t) → J22 q24 S23 = some R → zW (ia_P0 L xs fm) ia_nx (d + 2) 7 false cX7_gripOn 6 (some .int) 89 [(0, .ref o), (1, .int v1), (2, .int v2), (3, .int v3), (4, .ref 15)] [.int q24, .int 5, .ref 15] (h, t) (zQi (zDc t.1) h0 t R) := by
    intro q24 S23 h hE hf
    rw [eJ22] at hf
    obtain ⟨S25, eS25, hf⟩ := zl_some hf
    refine z_iastoreL (i := 5) dX7_gripOn_89 hE dc_15 (by decide) (by decide) (fun h hE => ?_)
    rw [← eS25] at hE
    refine z_aload_n dX7_gripOn_90 rfl ?_
    refine z_getC dX7_gripOn_91 tF_7_19 hE ho_o.1 rfl rfl ?_
    rcases zkr_some hf with ⟨ea26, hf⟩ | ⟨a26, ea26, hf⟩
    · refine z_getK dX7_gripOn_94 tF_7_79 hE dc_14 rfl rfl ?_
      refine z_topv ea26 ?_
      refine z_ifnonnullN dX7_gripOn_97 ?_
      refine z_aload_n dX7_gripOn_100 rfl ?_
      refine z_getC dX7_gripOn_101 tF_7_19 hE ho_o.1 rfl rfl ?_
      obtain ⟨r28, S27, k29, hf⟩ := zb_some hf
      refine z_callVi dX7_gripOn_104 tM_7_82 mt_2001 (Nat.le_of_ble_eq_true rfl) rfl rfl (z_recv hE dc_14 rfl) rfl (by have q0 : o < t.1 := Nat.lt_of_lt_of_le ho_o.2.2 (Nat.le_trans (by decide) hn1); have q1 : 15 < t.1 := Nat.lt_of_lt_of_le (by decide) hn1; simp [ia_oks, ia_okv, q0, q1]) (Nat.le_of_ble_eq_true rfl) (w_X2_plainWorth hn1 hn2 (d + 1) hE k29) (fun h hE => ?_)
      refine z_goto (tgt := 124) dX7_gripOn_107 (by decide) ?_
      refine z_istore (lv' := [(5, .int r28), (0, .ref o), (1, .int v1), (2, .int v2), (3, .int v3), (4, .ref 15)]) dX7_gripOn_124 (by decide) rfl ?_
      refine z_iload dX7_gripOn_126 rfl ?_
      by_cases c30 : 0 ≤ r28
      · have hf := zif_t hf c30
        refine z_if_ge_t (tgt := 135) dX7_gripOn_128 (by decide) c30 ?_
        refine z_iload dX7_gripOn_135 rfl ?_
        refine z_sipush (v := 999) dX7_gripOn_137 (by decide) ?_
        by_cases c31 : r28 ≤ 999
        · have hf := zif_t hf c31
          refine z_icmp_le_t (tgt := 149) dX7_gripOn_140 (by decide) c31 ?_
          refine z_iload dX7_gripOn_149 rfl ?_
          have e_ := Option.some.inj hf
          subst e_
          exact z_ireturn dX7_gripOn_151 rfl ⟨h, rfl, rfl, hE⟩
        · have hf := zif_f hf c31
          refine z_icmp_le_f (tgt := 149) dX7_gripOn_140 (by decide) c31 ?_
          refine z_sipush (v := 999) dX7_gripOn_143 (by decide) ?_
          refine z_goto (tgt := 151) dX7_gripOn_146 (by decide) ?_
          have e_ := Option.some.inj hf
          subst e_
          exact z_ireturn dX7_gripOn_151 rfl ⟨h, rfl, rfl, hE⟩
      · have hf := zif_f hf c30
        refine z_if_ge_f (tgt := 135) dX7_gripOn_128 (by decide) c30 ?_
        refine z_iconst (v := 0) dX7_gripOn_131 (by decide) ?_
        refine z_goto (tgt := 151) dX7_gripOn_132 (by decide) ?_
        have e_ := Option.some.inj hf
        subst e_
        exact z_ireturn dX7_gripOn_151 rfl ⟨h, rfl, rfl, hE⟩
    · obtain ⟨hda26, hf⟩ := zchk hf
      rw [hE.1] at hda26
      refine z_getK dX7_gripOn_94 tF_7_79 hE dc_14 rfl rfl ?_
      refine z_topv ea26 ?_
      refine z_ifnonnull (tgt := 110) dX7_gripOn_97 (by decide) ?_
      refine z_aload_n dX7_gripOn_110 rfl ?_
      refine z_getC dX7_gripOn_111 tF_7_19 hE ho_o.1 rfl rfl ?_
      refine z_aload_n dX7_gripOn_114 rfl ?_
      refine z_getC dX7_gripOn_115 tF_7_19 hE ho_o.1 rfl rfl ?_
      refine z_getK dX7_gripOn_118 tF_7_79 hE dc_14 rfl rfl ?_
      refine z_topv ea26 ?_
      obtain ⟨r33, S32, k34, hf⟩ := zb_some hf
      refine z_callVi dX7_gripOn_121 tM_7_86 mt_2002 (Nat.le_of_ble_eq_true rfl) rfl rfl (z_recv hE dc_14 rfl) rfl (by have q0 : o < t.1 := Nat.lt_of_lt_of_le ho_o.2.2 (Nat.le_trans (by decide) hn1); have q1 : 15 < t.1 := Nat.lt_of_lt_of_le (by decide) hn1; simp [ia_oks, ia_okv, q0, q1]) (Nat.le_of_ble_eq_true rfl) (w_X2_lawWorth hn1 hn2 (d + 0) hda26 hE k34) (fun h hE => ?_)
      refine z_istore (lv' := [(5, .int r33), (0, .ref o), (1, .int v1), (2, .int v2), (3, .int v3), (4, .ref 15)]) dX7_gripOn_124 (by decide) rfl ?_
      refine z_iload dX7_gripOn_126 rfl ?_
      by_cases c35 : 0 ≤ r33
      · have hf := zif_t hf c35
        refine z_if_ge_t (tgt := 135) dX7_gripOn_128 (by decide) c35 ?_
        refine z_iload dX7_gripOn_135 rfl ?_
        refine z_sipush (v := 999) dX7_gripOn_137 (by decide) ?_
        by_cases c36 : r33 ≤ 999
        · have hf := zif_t hf c36
          refine z_icmp_le_t (tgt := 149) dX7_gripOn_140 (by decide) c36 ?_
          refine z_iload dX7_gripOn_149 rfl ?_
          have e_ := Option.some.inj hf
          subst e_
          exact z_ireturn dX7_gripOn_151 rfl ⟨h, rfl, rfl, hE⟩
        · have hf := zif_f hf c36
          refine z_icmp_le_f (tgt := 149) dX7_gripOn_140 (by decide) c36 ?_
          refine z_sipush (v := 999) dX7_gripOn_143 (by decide) ?_
          refine z_goto (tgt := 151) dX7_gripOn_146 (by decide) ?_
          have e_ := Option.some.inj hf
          subst e_
          exact z_ireturn dX7_gripOn_151 rfl ⟨h, rfl, rfl, hE⟩
      · have hf := zif_f hf c35
        refine z_if_ge_f (tgt := 135) dX7_gripOn_128 (by decide) c35 ?_
        refine z_iconst (v := 0) dX7_gripOn_131 (by decide) ?_
        refine z_goto (tgt := 151) dX7_gripOn_132 (by decide) ?_
        have e_ := Option.some.inj hf
        subst e_
        exact z_ireturn dX7_gripOn_151 rfl ⟨h, rfl, rfl, hE⟩
  by_cases c21 : ¬ v2 = (-1)
  · have hf := zif_t hf c21
    refine z_icmp_ne_t (tgt := 79) dX7_gripOn_72 (by decide) c21 ?_
    refine z_aload_n dX7_gripOn_79 rfl ?_
    refine z_getC dX7_gripOn_80 tF_7_15 hE ho_o.1 rfl rfl ?_
    refine z_iconst (v := 2) dX7_gripOn_83 (by decide) ?_
    refine z_iload_n dX7_gripOn_84 rfl ?_
    refine z_iconst (v := 0) dX7_gripOn_85 (by decide) ?_
    obtain ⟨r38, S37, k39, hf⟩ := zb_some hf
    refine z_callVi dX7_gripOn_86 tM_7_34 mt_10004 (Nat.le_of_ble_eq_true rfl) rfl rfl (z_recv hE dc_11 rfl) rfl (by have q0 : 15 < t.1 := Nat.lt_of_lt_of_le (by decide) hn1; have q1 : o < t.1 := Nat.lt_of_lt_of_le ho_o.2.2 (Nat.le_trans (by decide) hn1); simp [ia_oks, ia_okv, q0, q1]) (Nat.le_of_ble_eq_true rfl) (w_X10_item hn1 hn2 (d + 0) hE k39) (fun h hE => ?_)
    exact zW.sub (hJ22 r38 S37 _ hE hf) [1, 2, 3, 4, 0] rfl rfl rfl rfl
  · have hf := zif_f hf c21
    refine z_icmp_ne_f (tgt := 79) dX7_gripOn_72 (by decide) c21 ?_
    refine z_iconst (v := 0) dX7_gripOn_75 (by decide) ?_
    refine z_goto (tgt := 89) dX7_gripOn_76 (by decide) ?_
    exact zW.sub (hJ22 0 S20 _ hE hf) [1, 2, 3, 4, 0] rfl rfl rfl rfl
def f_X11_grip (v1 : Int32) (v2 : Int32) (v3 : Int32) (S : zS) : Option (Int32 × zS) :=
zb (f_X11_isHand v1 S) fun r2 S1 =>
if r2 = 0 then
some ((-1), S1)
else
zb (f_X11_isTool v2 S1) fun r6 S5 =>
if r6 = 0 then
some ((-1), S5)
else
zb (f_X11_isJar v3 S5) fun r10 S9 =>
if ¬ r10 = 0 then
zb (f_X7_gripOn 17 v1 v2 v3 S9) fun r14 S13 =>
some (r14, S13)
else
some ((-1), S9)
theorem w_X11_grip {L : Nat} {xs : Nat → Int32} {fm : Bool} {h0 : Nat → va_E} {t : Nat × Nat × Nat} (hn1 : 64 ≤ t.1) (hn2 : t.1 ≤ 1000000) (d : Nat) {h : Nat → va_E} {S : zS} (hE : zE (zDc t.1) h0 S (h, t)) {v1 : Int32} {v2 : Int32} {v3 : Int32} {R : Int32 × zS} (hf : f_X11_grip v1 v2 v3 S = some R) : zC (ia_P0 L xs fm) (d + 4) 11015 [.ref 0, .int v1, .int v2, .int v3] (h, t) (zQi (zDc t.1) h0 t R) := by
  refine zC_of mt_11015 nn_11015 (Nat.le_of_ble_eq_true rfl) ?_
  refine zW_lv (lv' := [(0, .ref 0), (1, .int v1), (2, .int v2), (3, .int v3)]) rfl ?_
  unfold f_X11_grip at hf
  refine z_aload_n dX11_grip_0 rfl ?_
  refine z_iload_n dX11_grip_1 rfl ?_
  obtain ⟨r2, S1, k3, hf⟩ := zb_some hf
  refine z_callVi dX11_grip_2 tM_11_196 mt_11009 (Nat.le_of_ble_eq_true rfl) rfl rfl (z_recv hE dc_0 rfl) rfl (ia_oks_le hn1 rfl) (Nat.le_of_ble_eq_true rfl) (w_X11_isHand hn1 hn2 (d + 2) hE k3) (fun h hE => ?_)
  by_cases c4 : r2 = 0
  · have hf := zif_t hf c4
    refine z_if_eq_t (tgt := 24) dX11_grip_5 (by decide) c4 ?_
    refine z_iconst (v := (-1)) dX11_grip_24 (by decide) ?_
    have e_ := Option.some.inj hf
    subst e_
    exact z_ireturn dX11_grip_25 rfl ⟨h, rfl, rfl, hE⟩
  · have hf := zif_f hf c4
    refine z_if_eq_f (tgt := 24) dX11_grip_5 (by decide) c4 ?_
    refine z_aload_n dX11_grip_8 rfl ?_
    refine z_iload_n dX11_grip_9 rfl ?_
    obtain ⟨r6, S5, k7, hf⟩ := zb_some hf
    refine z_callVi dX11_grip_10 tM_11_205 mt_11011 (Nat.le_of_ble_eq_true rfl) rfl rfl (z_recv hE dc_0 rfl) rfl (ia_oks_le hn1 rfl) (Nat.le_of_ble_eq_true rfl) (w_X11_isTool hn1 hn2 (d + 2) hE k7) (fun h hE => ?_)
    by_cases c8 : r6 = 0
    · have hf := zif_t hf c8
      refine z_if_eq_t (tgt := 24) dX11_grip_13 (by decide) c8 ?_
      refine z_iconst (v := (-1)) dX11_grip_24 (by decide) ?_
      have e_ := Option.some.inj hf
      subst e_
      exact z_ireturn dX11_grip_25 rfl ⟨h, rfl, rfl, hE⟩
    · have hf := zif_f hf c8
      refine z_if_eq_f (tgt := 24) dX11_grip_13 (by decide) c8 ?_
      refine z_aload_n dX11_grip_16 rfl ?_
      refine z_iload_n dX11_grip_17 rfl ?_
      obtain ⟨r10, S9, k11, hf⟩ := zb_some hf
      refine z_callVi dX11_grip_18 tM_11_178 mt_11016 (Nat.le_of_ble_eq_true rfl) rfl rfl (z_recv hE dc_0 rfl) rfl (ia_oks_le hn1 rfl) (Nat.le_of_ble_eq_true rfl) (w_X11_isJar hn1 hn2 (d + 2) hE k11) (fun h hE => ?_)
      by_cases c12 : ¬ r10 = 0
      · have hf := zif_t hf c12
        refine z_if_ne_t (tgt := 26) dX11_grip_21 (by decide) c12 ?_
        refine z_aload_n dX11_grip_26 rfl ?_
        refine z_getC dX11_grip_27 tF_11_58 hE dc_0 rfl rfl ?_
        refine z_iload_n dX11_grip_30 rfl ?_
        refine z_iload_n dX11_grip_31 rfl ?_
        refine z_iload_n dX11_grip_32 rfl ?_
        obtain ⟨r14, S13, k15, hf⟩ := zb_some hf
        refine z_callVi dX11_grip_33 tM_11_212 mt_7006 (Nat.le_of_ble_eq_true rfl) rfl rfl (z_recv hE dc_17 rfl) rfl (ia_oks_le hn1 rfl) (Nat.le_of_ble_eq_true rfl) (w_X7_gripOn hn1 hn2 (d + 0) sc_17 hE k15) (fun h hE => ?_)
        have e_ := Option.some.inj hf
        subst e_
        exact z_ireturn dX11_grip_36 rfl ⟨h, rfl, rfl, hE⟩
      · have hf := zif_f hf c12
        refine z_if_ne_f (tgt := 26) dX11_grip_21 (by decide) c12 ?_
        refine z_iconst (v := (-1)) dX11_grip_24 (by decide) ?_
        have e_ := Option.some.inj hf
        subst e_
        exact z_ireturn dX11_grip_25 rfl ⟨h, rfl, rfl, hE⟩
def f_X7_isClosed (o : Nat) (v1 : Int32) (S : zS) : Option (Int32 × zS) :=
zb (f_X7_jarCell o v1 5 S) fun r2 S1 =>
if ¬ r2 = 0 then
some (0, S1)
else
zb (f_X7_jarCell o v1 6 S1) fun r6 S5 =>
if ¬ r6 = 0 then
some (0, S5)
else
some (1, S5)
theorem w_X7_isClosed {L : Nat} {xs : Nat → Int32} {fm : Bool} {h0 : Nat → va_E} {t : Nat × Nat × Nat} (hn1 : 64 ≤ t.1) (hn2 : t.1 ≤ 1000000) (d : Nat) {o : Nat} (ho_o : zSc t.1 o) {h : Nat → va_E} {S : zS} (hE : zE (zDc t.1) h0 S (h, t)) {v1 : Int32} {R : Int32 × zS} (hf : f_X7_isClosed o v1 S = some R) : zC (ia_P0 L xs fm) (d + 2) 7008 [.ref o, .int v1] (h, t) (zQi (zDc t.1) h0 t R) := by
  refine zC_of mt_7008 nn_7008 (Nat.le_of_ble_eq_true rfl) ?_
  refine zW_lv (lv' := [(0, .ref o), (1, .int v1)]) rfl ?_
  unfold f_X7_isClosed at hf
  refine z_aload_n dX7_isClosed_0 rfl ?_
  refine z_iload_n dX7_isClosed_1 rfl ?_
  refine z_iconst (v := 5) dX7_isClosed_2 (by decide) ?_
  obtain ⟨r2, S1, k3, hf⟩ := zb_some hf
  refine z_callVi dX7_isClosed_3 tM_7_68 mt_7007 (Nat.le_of_ble_eq_true rfl) rfl rfl (z_recv hE ho_o.1 rfl) rfl (by have q0 : o < t.1 := Nat.lt_of_lt_of_le ho_o.2.2 (Nat.le_trans (by decide) hn1); simp [ia_oks, ia_okv, q0]) (Nat.le_of_ble_eq_true rfl) (w_X7_jarCell hn1 hn2 (d + 0) ho_o hE k3) (fun h hE => ?_)
  by_cases c4 : ¬ r2 = 0
  · have hf := zif_t hf c4
    refine z_if_ne_t (tgt := 23) dX7_isClosed_6 (by decide) c4 ?_
    refine z_iconst (v := 0) dX7_isClosed_23 (by decide) ?_
    have e_ := Option.some.inj hf
    subst e_
    exact z_zreturn dX7_isClosed_24 rfl (by decide) ⟨h, rfl, rfl, hE⟩
  · have hf := zif_f hf c4
    refine z_if_ne_f (tgt := 23) dX7_isClosed_6 (by decide) c4 ?_
    refine z_aload_n dX7_isClosed_9 rfl ?_
    refine z_iload_n dX7_isClosed_10 rfl ?_
    refine z_bipush (v := 6) dX7_isClosed_11 (by decide) ?_
    obtain ⟨r6, S5, k7, hf⟩ := zb_some hf
    refine z_callVi dX7_isClosed_13 tM_7_68 mt_7007 (Nat.le_of_ble_eq_true rfl) rfl rfl (z_recv hE ho_o.1 rfl) rfl (by have q0 : o < t.1 := Nat.lt_of_lt_of_le ho_o.2.2 (Nat.le_trans (by decide) hn1); simp [ia_oks, ia_okv, q0]) (Nat.le_of_ble_eq_true rfl) (w_X7_jarCell hn1 hn2 (d + 0) ho_o hE k7) (fun h hE => ?_)
    by_cases c8 : ¬ r6 = 0
    · have hf := zif_t hf c8
      refine z_if_ne_t (tgt := 23) dX7_isClosed_16 (by decide) c8 ?_
      refine z_iconst (v := 0) dX7_isClosed_23 (by decide) ?_
      have e_ := Option.some.inj hf
      subst e_
      exact z_zreturn dX7_isClosed_24 rfl (by decide) ⟨h, rfl, rfl, hE⟩
    · have hf := zif_f hf c8
      refine z_if_ne_f (tgt := 23) dX7_isClosed_16 (by decide) c8 ?_
      refine z_iconst (v := 1) dX7_isClosed_19 (by decide) ?_
      refine z_goto (tgt := 24) dX7_isClosed_20 (by decide) ?_
      have e_ := Option.some.inj hf
      subst e_
      exact z_zreturn dX7_isClosed_24 rfl (by decide) ⟨h, rfl, rfl, hE⟩
def f_X11_lacks (v1 : Int32) (v2 : Int32) (v3 : Int32) (S : zS) : Option (Int32 × zS) :=
zb (f_X11_isHand v1 S) fun r2 S1 =>
if r2 = 0 then
some ((-1), S1)
else
zb (f_X11_isTool v2 S1) fun r6 S5 =>
if r6 = 0 then
some ((-1), S5)
else
zb (f_X11_isJar v3 S5) fun r10 S9 =>
if r10 = 0 then
some ((-1), S9)
else
zb (f_X7_isClosed 17 v3 S9) fun r14 S13 =>
if ¬ r14 = 0 then
zb (f_X7_hold 17 v3 S13) fun r18 S17 =>
zb (f_X7_gripOn 17 v1 v2 v3 S17) fun r21 S20 =>
some (if 0 < (r18 - r21) then (r18 - r21) else 0, S20)
else
some ((-1), S13)
theorem w_X11_lacks {L : Nat} {xs : Nat → Int32} {fm : Bool} {h0 : Nat → va_E} {t : Nat × Nat × Nat} (hn1 : 64 ≤ t.1) (hn2 : t.1 ≤ 1000000) (d : Nat) {h : Nat → va_E} {S : zS} (hE : zE (zDc t.1) h0 S (h, t)) {v1 : Int32} {v2 : Int32} {v3 : Int32} {R : Int32 × zS} (hf : f_X11_lacks v1 v2 v3 S = some R) : zC (ia_P0 L xs fm) (d + 4) 11017 [.ref 0, .int v1, .int v2, .int v3] (h, t) (zQi (zDc t.1) h0 t R) := by
  refine zC_of mt_11017 nn_11017 (Nat.le_of_ble_eq_true rfl) ?_
  refine zW_lv (lv' := [(0, .ref 0), (1, .int v1), (2, .int v2), (3, .int v3)]) rfl ?_
  unfold f_X11_lacks at hf
  refine z_aload_n dX11_lacks_0 rfl ?_
  refine z_iload_n dX11_lacks_1 rfl ?_
  obtain ⟨r2, S1, k3, hf⟩ := zb_some hf
  refine z_callVi dX11_lacks_2 tM_11_196 mt_11009 (Nat.le_of_ble_eq_true rfl) rfl rfl (z_recv hE dc_0 rfl) rfl (ia_oks_le hn1 rfl) (Nat.le_of_ble_eq_true rfl) (w_X11_isHand hn1 hn2 (d + 2) hE k3) (fun h hE => ?_)
  by_cases c4 : r2 = 0
  · have hf := zif_t hf c4
    refine z_if_eq_t (tgt := 35) dX11_lacks_5 (by decide) c4 ?_
    refine z_iconst (v := (-1)) dX11_lacks_35 (by decide) ?_
    have e_ := Option.some.inj hf
    subst e_
    exact z_ireturn dX11_lacks_36 rfl ⟨h, rfl, rfl, hE⟩
  · have hf := zif_f hf c4
    refine z_if_eq_f (tgt := 35) dX11_lacks_5 (by decide) c4 ?_
    refine z_aload_n dX11_lacks_8 rfl ?_
    refine z_iload_n dX11_lacks_9 rfl ?_
    obtain ⟨r6, S5, k7, hf⟩ := zb_some hf
    refine z_callVi dX11_lacks_10 tM_11_205 mt_11011 (Nat.le_of_ble_eq_true rfl) rfl rfl (z_recv hE dc_0 rfl) rfl (ia_oks_le hn1 rfl) (Nat.le_of_ble_eq_true rfl) (w_X11_isTool hn1 hn2 (d + 2) hE k7) (fun h hE => ?_)
    by_cases c8 : r6 = 0
    · have hf := zif_t hf c8
      refine z_if_eq_t (tgt := 35) dX11_lacks_13 (by decide) c8 ?_
      refine z_iconst (v := (-1)) dX11_lacks_35 (by decide) ?_
      have e_ := Option.some.inj hf
      subst e_
      exact z_ireturn dX11_lacks_36 rfl ⟨h, rfl, rfl, hE⟩
    · have hf := zif_f hf c8
      refine z_if_eq_f (tgt := 35) dX11_lacks_13 (by decide) c8 ?_
      refine z_aload_n dX11_lacks_16 rfl ?_
      refine z_iload_n dX11_lacks_17 rfl ?_
      obtain ⟨r10, S9, k11, hf⟩ := zb_some hf
      refine z_callVi dX11_lacks_18 tM_11_178 mt_11016 (Nat.le_of_ble_eq_true rfl) rfl rfl (z_recv hE dc_0 rfl) rfl (ia_oks_le hn1 rfl) (Nat.le_of_ble_eq_true rfl) (w_X11_isJar hn1 hn2 (d + 2) hE k11) (fun h hE => ?_)
      by_cases c12 : r10 = 0
      · have hf := zif_t hf c12
        refine z_if_eq_t (tgt := 35) dX11_lacks_21 (by decide) c12 ?_
        refine z_iconst (v := (-1)) dX11_lacks_35 (by decide) ?_
        have e_ := Option.some.inj hf
        subst e_
        exact z_ireturn dX11_lacks_36 rfl ⟨h, rfl, rfl, hE⟩
      · have hf := zif_f hf c12
        refine z_if_eq_f (tgt := 35) dX11_lacks_21 (by decide) c12 ?_
        refine z_aload_n dX11_lacks_24 rfl ?_
        refine z_getC dX11_lacks_25 tF_11_58 hE dc_0 rfl rfl ?_
        refine z_iload_n dX11_lacks_28 rfl ?_
        obtain ⟨r14, S13, k15, hf⟩ := zb_some hf
        refine z_callVi dX11_lacks_29 tM_11_215 mt_7008 (Nat.le_of_ble_eq_true rfl) rfl rfl (z_recv hE dc_17 rfl) rfl (ia_oks_le hn1 rfl) (Nat.le_of_ble_eq_true rfl) (w_X7_isClosed hn1 hn2 (d + 1) sc_17 hE k15) (fun h hE => ?_)
        by_cases c16 : ¬ r14 = 0
        · have hf := zif_t hf c16
          refine z_if_ne_t (tgt := 37) dX11_lacks_32 (by decide) c16 ?_
          refine z_iconst (v := 0) dX11_lacks_37 (by decide) ?_
          refine z_aload_n dX11_lacks_38 rfl ?_
          refine z_getC dX11_lacks_39 tF_11_58 hE dc_0 rfl rfl ?_
          refine z_iload_n dX11_lacks_42 rfl ?_
          obtain ⟨r18, S17, k19, hf⟩ := zb_some hf
          refine z_callVi dX11_lacks_43 tM_11_185 mt_7009 (Nat.le_of_ble_eq_true rfl) rfl rfl (z_recv hE dc_17 rfl) rfl (ia_oks_le hn1 rfl) (Nat.le_of_ble_eq_true rfl) (w_X7_hold hn1 hn2 (d + 1) sc_17 hE k19) (fun h hE => ?_)
          refine z_aload_n dX11_lacks_46 rfl ?_
          refine z_getC dX11_lacks_47 tF_11_58 hE dc_0 rfl rfl ?_
          refine z_iload_n dX11_lacks_50 rfl ?_
          refine z_iload_n dX11_lacks_51 rfl ?_
          refine z_iload_n dX11_lacks_52 rfl ?_
          obtain ⟨r21, S20, k22, hf⟩ := zb_some hf
          refine z_callVi dX11_lacks_53 tM_11_212 mt_7006 (Nat.le_of_ble_eq_true rfl) rfl rfl (z_recv hE dc_17 rfl) rfl (ia_oks_le hn1 rfl) (Nat.le_of_ble_eq_true rfl) (w_X7_gripOn hn1 hn2 (d + 0) sc_17 hE k22) (fun h hE => ?_)
          refine z_isub dX11_lacks_56 ?_
          refine z_mmax dX11_lacks_57 tM_11_218 (Nat.le_of_ble_eq_true rfl) ?_
          have e_ := Option.some.inj hf
          subst e_
          exact z_ireturn dX11_lacks_60 rfl ⟨h, rfl, rfl, hE⟩
        · have hf := zif_f hf c16
          refine z_if_ne_f (tgt := 37) dX11_lacks_32 (by decide) c16 ?_
          refine z_iconst (v := (-1)) dX11_lacks_35 (by decide) ?_
          have e_ := Option.some.inj hf
          subst e_
          exact z_ireturn dX11_lacks_36 rfl ⟨h, rfl, rfl, hE⟩
def f_X7_onTable (o : Nat) (S : zS) : Option (Int32 × zS) :=
some (S.1 (o + 1) 64, S)
theorem w_X7_onTable {L : Nat} {xs : Nat → Int32} {fm : Bool} {h0 : Nat → va_E} {t : Nat × Nat × Nat} (hn1 : 64 ≤ t.1) (hn2 : t.1 ≤ 1000000) (d : Nat) {o : Nat} (ho_o : zSc t.1 o) {h : Nat → va_E} {S : zS} (hE : zE (zDc t.1) h0 S (h, t)) {R : Int32 × zS} (hf : f_X7_onTable o S = some R) : zC (ia_P0 L xs fm) (d + 1) 7010 [.ref o] (h, t) (zQi (zDc t.1) h0 t R) := by
  refine zC_of mt_7010 nn_7010 (Nat.le_of_ble_eq_true rfl) ?_
  refine zW_lv (lv' := [(0, .ref o)]) rfl ?_
  unfold f_X7_onTable at hf
  refine z_aload_n dX7_onTable_0 rfl ?_
  refine z_getC dX7_onTable_1 tF_7_9 hE ho_o.1 rfl rfl ?_
  refine z_bipush (v := 64) dX7_onTable_4 (by decide) ?_
  refine z_ialoadL (i := 64) dX7_onTable_6 hE ho_o.2.1 (by decide) (by decide) ?_
  have e_ := Option.some.inj hf
  subst e_
  exact z_ireturn dX7_onTable_7 rfl ⟨h, rfl, rfl, hE⟩
def f_X11_lidIsShut  (S : zS) : Option (Int32 × zS) :=
if (S.1 0 17) = 0 then
some (0, S)
else
zb (f_X7_onTable 17 S) fun r3 S2 =>
zb (f_X7_isClosed 17 r3 S2) fun r6 S5 =>
if r6 = 0 then
some (0, S5)
else
some (1, S5)
theorem w_X11_lidIsShut {L : Nat} {xs : Nat → Int32} {fm : Bool} {h0 : Nat → va_E} {t : Nat × Nat × Nat} (hn1 : 64 ≤ t.1) (hn2 : t.1 ≤ 1000000) (d : Nat) {h : Nat → va_E} {S : zS} (hE : zE (zDc t.1) h0 S (h, t)) {R : Int32 × zS} (hf : f_X11_lidIsShut  S = some R) : zC (ia_P0 L xs fm) (d + 3) 11019 [.ref 0] (h, t) (zQi (zDc t.1) h0 t R) := by
  refine zC_of mt_11019 nn_11019 (Nat.le_of_ble_eq_true rfl) ?_
  refine zW_lv (lv' := [(0, .ref 0)]) rfl ?_
  unfold f_X11_lidIsShut at hf
  refine z_aload_n dX11_lidIsShut_0 rfl ?_
  refine z_getI dX11_lidIsShut_1 tF_11_149 hE dc_0 rfl rfl ?_
  by_cases c1 : (S.1 0 17) = 0
  · have hf := zif_t hf c1
    refine z_if_eq_t (tgt := 28) dX11_lidIsShut_4 (by decide) c1 ?_
    refine z_iconst (v := 0) dX11_lidIsShut_28 (by decide) ?_
    have e_ := Option.some.inj hf
    subst e_
    exact z_zreturn dX11_lidIsShut_29 rfl (by decide) ⟨h, rfl, rfl, hE⟩
  · have hf := zif_f hf c1
    refine z_if_eq_f (tgt := 28) dX11_lidIsShut_4 (by decide) c1 ?_
    refine z_aload_n dX11_lidIsShut_7 rfl ?_
    refine z_getC dX11_lidIsShut_8 tF_11_58 hE dc_0 rfl rfl ?_
    refine z_aload_n dX11_lidIsShut_11 rfl ?_
    refine z_getC dX11_lidIsShut_12 tF_11_58 hE dc_0 rfl rfl ?_
    obtain ⟨r3, S2, k4, hf⟩ := zb_some hf
    refine z_callVi dX11_lidIsShut_15 tM_11_234 mt_7010 (Nat.le_of_ble_eq_true rfl) rfl rfl (z_recv hE dc_17 rfl) rfl (ia_oks_le hn1 rfl) (Nat.le_of_ble_eq_true rfl) (w_X7_onTable hn1 hn2 (d + 1) sc_17 hE k4) (fun h hE => ?_)
    obtain ⟨r6, S5, k7, hf⟩ := zb_some hf
    refine z_callVi dX11_lidIsShut_18 tM_11_215 mt_7008 (Nat.le_of_ble_eq_true rfl) rfl rfl (z_recv hE dc_17 rfl) rfl (ia_oks_le hn1 rfl) (Nat.le_of_ble_eq_true rfl) (w_X7_isClosed hn1 hn2 (d + 0) sc_17 hE k7) (fun h hE => ?_)
    by_cases c8 : r6 = 0
    · have hf := zif_t hf c8
      refine z_if_eq_t (tgt := 28) dX11_lidIsShut_21 (by decide) c8 ?_
      refine z_iconst (v := 0) dX11_lidIsShut_28 (by decide) ?_
      have e_ := Option.some.inj hf
      subst e_
      exact z_zreturn dX11_lidIsShut_29 rfl (by decide) ⟨h, rfl, rfl, hE⟩
    · have hf := zif_f hf c8
      refine z_if_eq_f (tgt := 28) dX11_lidIsShut_21 (by decide) c8 ?_
      refine z_iconst (v := 1) dX11_lidIsShut_24 (by decide) ?_
      refine z_goto (tgt := 29) dX11_lidIsShut_25 (by decide) ?_
      have e_ := Option.some.inj hf
      subst e_
      exact z_zreturn dX11_lidIsShut_29 rfl (by decide) ⟨h, rfl, rfl, hE⟩
def f_X11_tryCode (v0 : Int32) (v1 : Int32) (S : zS) : Option (Int32 × zS) :=
if ¬ v1 = (-1) then
some ((100 + (10 * v0)) + v1, S)
else
some ((100 + (10 * v0)) + 9, S)
theorem w_X11_tryCode {L : Nat} {xs : Nat → Int32} {fm : Bool} {h0 : Nat → va_E} {t : Nat × Nat × Nat} (hn1 : 64 ≤ t.1) (hn2 : t.1 ≤ 1000000) (d : Nat) {h : Nat → va_E} {S : zS} (hE : zE (zDc t.1) h0 S (h, t)) {v0 : Int32} {v1 : Int32} {R : Int32 × zS} (hf : f_X11_tryCode v0 v1 S = some R) : zC (ia_P0 L xs fm) (d + 1) 11020 [.int v0, .int v1] (h, t) (zQi (zDc t.1) h0 t R) := by
  refine zC_of mt_11020 nn_11020 (Nat.le_of_ble_eq_true rfl) ?_
  refine zW_lv (lv' := [(0, .int v0), (1, .int v1)]) rfl ?_
  unfold f_X11_tryCode at hf
  refine z_bipush (v := 100) dX11_tryCode_0 (by decide) ?_
  refine z_bipush (v := 10) dX11_tryCode_2 (by decide) ?_
  refine z_iload_n dX11_tryCode_4 rfl ?_
  refine z_imul dX11_tryCode_5 ?_
  refine z_iadd dX11_tryCode_6 ?_
  refine z_iload_n dX11_tryCode_7 rfl ?_
  refine z_iconst (v := (-1)) dX11_tryCode_8 (by decide) ?_
  by_cases c1 : ¬ v1 = (-1)
  · have hf := zif_t hf c1
    refine z_icmp_ne_t (tgt := 17) dX11_tryCode_9 (by decide) c1 ?_
    refine z_iload_n dX11_tryCode_17 rfl ?_
    refine z_iadd dX11_tryCode_18 ?_
    have e_ := Option.some.inj hf
    subst e_
    exact z_ireturn dX11_tryCode_19 rfl ⟨h, rfl, rfl, hE⟩
  · have hf := zif_f hf c1
    refine z_icmp_ne_f (tgt := 17) dX11_tryCode_9 (by decide) c1 ?_
    refine z_bipush (v := 9) dX11_tryCode_12 (by decide) ?_
    refine z_goto (tgt := 18) dX11_tryCode_14 (by decide) ?_
    refine z_iadd dX11_tryCode_18 ?_
    have e_ := Option.some.inj hf
    subst e_
    exact z_ireturn dX11_tryCode_19 rfl ⟨h, rfl, rfl, hE⟩
def f_X1_keep_17  (S : zS) : Option (Unit × zS) :=
if 0 ≤ (0 : Int32).toInt ∧ 0 ≤ ((S.1 21 5) * 66).toInt ∧ 0 ≤ (66 : Int32).toInt ∧ (0 : Int32).toInt + (66 : Int32).toInt ≤ ((66 : Nat) : Int) ∧ ((S.1 21 5) * 66).toInt + (66 : Int32).toInt ≤ ((2640 : Nat) : Int) then
zl (sC S 18 ((0 : Int32).toNatClampNeg) 22 (((S.1 21 5) * 66).toNatClampNeg) ((66 : Int32).toNatClampNeg)) fun S2 =>
zl (sV S2 21 5 (((S2.1 21 5) + 1) - ((S2.1 21 5) + 1) / 40 * 40)) fun S3 =>
zl (sV S3 21 6 (if ((S3.1 21 6) + 1) < 40 then ((S3.1 21 6) + 1) else 40)) fun S4 =>
some ((), S4)
else none
theorem w_X1_keep_17 {L : Nat} {xs : Nat → Int32} {fm : Bool} {h0 : Nat → va_E} {t : Nat × Nat × Nat} (hn1 : 64 ≤ t.1) (hn2 : t.1 ≤ 1000000) (d : Nat) {h : Nat → va_E} {S : zS} (hE : zE (zDc t.1) h0 S (h, t)) {R : Unit × zS} (hf : f_X1_keep_17  S = some R) : zC (ia_P0 L xs fm) (d + 1) 1002 [.ref 21, .ref 17] (h, t) (zQv (zDc t.1) h0 t R) := by
  refine zC_of mt_1002 nn_1002 (Nat.le_of_ble_eq_true rfl) ?_
  refine zW_lv (lv' := [(0, .ref 21), (1, .ref 17)]) rfl ?_
  unfold f_X1_keep_17 at hf
  refine z_aload_n dX1_keep_0 rfl ?_
  refine z_getC dX1_keep_1 tF_1_35 hE dc_17 rfl rfl ?_
  refine z_iconst (v := 0) dX1_keep_4 (by decide) ?_
  refine z_aload_n dX1_keep_5 rfl ?_
  refine z_getC dX1_keep_6 tF_1_9 hE dc_21 rfl rfl ?_
  refine z_aload_n dX1_keep_9 rfl ?_
  refine z_getI dX1_keep_10 tF_1_46 hE dc_21 rfl rfl ?_
  refine z_bipush (v := 66) dX1_keep_13 (by decide) ?_
  refine z_imul dX1_keep_15 ?_
  refine z_bipush (v := 66) dX1_keep_16 (by decide) ?_
  obtain ⟨b1, hf⟩ := zchk hf
  obtain ⟨S2, eS2, hf⟩ := zl_some hf
  refine z_cpy dX1_keep_18 tM_1_40 hE dc_18 dc_22 (Nat.le_of_ble_eq_true rfl) b1 (fun h hE => ?_)
  rw [← eS2] at hE
  refine z_aload_n dX1_keep_21 rfl ?_
  refine z_aload_n dX1_keep_22 rfl ?_
  refine z_getI dX1_keep_23 tF_1_46 hE dc_21 rfl rfl ?_
  refine z_iconst (v := 1) dX1_keep_26 (by decide) ?_
  refine z_iadd dX1_keep_27 ?_
  refine z_bipush (v := 40) dX1_keep_28 (by decide) ?_
  refine z_irem dX1_keep_30 (by decide) ?_
  obtain ⟨S3, eS3, hf⟩ := zl_some hf
  refine z_putI dX1_keep_31 tF_1_46 hE dc_21 rfl rfl rfl rfl (fun h hE => ?_)
  rw [← eS3] at hE
  refine z_aload_n dX1_keep_34 rfl ?_
  refine z_bipush (v := 40) dX1_keep_35 (by decide) ?_
  refine z_aload_n dX1_keep_37 rfl ?_
  refine z_getI dX1_keep_38 tF_1_24 hE dc_21 rfl rfl ?_
  refine z_iconst (v := 1) dX1_keep_41 (by decide) ?_
  refine z_iadd dX1_keep_42 ?_
  refine z_mmin dX1_keep_43 tM_1_49 (Nat.le_of_ble_eq_true rfl) ?_
  obtain ⟨S4, eS4, hf⟩ := zl_some hf
  refine z_putI dX1_keep_46 tF_1_24 hE dc_21 rfl rfl rfl rfl (fun h hE => ?_)
  rw [← eS4] at hE
  have e_ := Option.some.inj hf
  subst e_
  exact z_vreturn dX1_keep_49 rfl ⟨h, rfl, rfl, hE⟩
def f_X7_setLid (o : Nat) (v1 : Int32) (v2 : Int32) (S : zS) : Option (Unit × zS) :=
if ia_in (((S.1 (o + 1) 64) * 7) + v1) 66 = true then
zl (sV S (o + 1) ((((S.1 (o + 1) 64) * 7) + v1).toNatClampNeg) v2) fun S2 =>
some ((), S2)
else none
theorem w_X7_setLid {L : Nat} {xs : Nat → Int32} {fm : Bool} {h0 : Nat → va_E} {t : Nat × Nat × Nat} (hn1 : 64 ≤ t.1) (hn2 : t.1 ≤ 1000000) (d : Nat) {o : Nat} (ho_o : zSc t.1 o) {h : Nat → va_E} {S : zS} (hE : zE (zDc t.1) h0 S (h, t)) {v1 : Int32} {v2 : Int32} {R : Unit × zS} (hf : f_X7_setLid o v1 v2 S = some R) : zC (ia_P0 L xs fm) (d + 1) 7012 [.ref o, .int v1, .int v2] (h, t) (zQv (zDc t.1) h0 t R) := by
  refine zC_of mt_7012 nn_7012 (Nat.le_of_ble_eq_true rfl) ?_
  refine zW_lv (lv' := [(0, .ref o), (1, .int v1), (2, .int v2)]) rfl ?_
  unfold f_X7_setLid at hf
  refine z_aload_n dX7_setLid_0 rfl ?_
  refine z_getC dX7_setLid_1 tF_7_9 hE ho_o.1 rfl rfl ?_
  refine z_aload_n dX7_setLid_4 rfl ?_
  refine z_getC dX7_setLid_5 tF_7_9 hE ho_o.1 rfl rfl ?_
  refine z_bipush (v := 64) dX7_setLid_8 (by decide) ?_
  refine z_ialoadL (i := 64) dX7_setLid_10 hE ho_o.2.1 (by decide) (by decide) ?_
  refine z_bipush (v := 7) dX7_setLid_11 (by decide) ?_
  refine z_imul dX7_setLid_13 ?_
  refine z_iload_n dX7_setLid_14 rfl ?_
  refine z_iadd dX7_setLid_15 ?_
  refine z_iload_n dX7_setLid_16 rfl ?_
  obtain ⟨b1, hf⟩ := zchk hf
  obtain ⟨S2, eS2, hf⟩ := zl_some hf
  refine z_iastoreL (i := (((S.1 (o + 1) 64) * 7) + v1).toNatClampNeg) dX7_setLid_17 hE ho_o.2.1 b1 rfl (fun h hE => ?_)
  rw [← eS2] at hE
  have e_ := Option.some.inj hf
  subst e_
  exact z_vreturn dX7_setLid_18 rfl ⟨h, rfl, rfl, hE⟩
def f_X7_lid (o : Nat) (v1 : Int32) (S : zS) : Option (Int32 × zS) :=
if ia_in (((S.1 (o + 1) 64) * 7) + v1) 66 = true then
some (S.1 (o + 1) (((S.1 (o + 1) 64) * 7) + v1).toNatClampNeg, S)
else none
theorem w_X7_lid {L : Nat} {xs : Nat → Int32} {fm : Bool} {h0 : Nat → va_E} {t : Nat × Nat × Nat} (hn1 : 64 ≤ t.1) (hn2 : t.1 ≤ 1000000) (d : Nat) {o : Nat} (ho_o : zSc t.1 o) {h : Nat → va_E} {S : zS} (hE : zE (zDc t.1) h0 S (h, t)) {v1 : Int32} {R : Int32 × zS} (hf : f_X7_lid o v1 S = some R) : zC (ia_P0 L xs fm) (d + 1) 7013 [.ref o, .int v1] (h, t) (zQi (zDc t.1) h0 t R) := by
  refine zC_of mt_7013 nn_7013 (Nat.le_of_ble_eq_true rfl) ?_
  refine zW_lv (lv' := [(0, .ref o), (1, .int v1)]) rfl ?_
  unfold f_X7_lid at hf
  refine z_aload_n dX7_lid_0 rfl ?_
  refine z_getC dX7_lid_1 tF_7_9 hE ho_o.1 rfl rfl ?_
  refine z_aload_n dX7_lid_4 rfl ?_
  refine z_getC dX7_lid_5 tF_7_9 hE ho_o.1 rfl rfl ?_
  refine z_bipush (v := 64) dX7_lid_8 (by decide) ?_
  refine z_ialoadL (i := 64) dX7_lid_10 hE ho_o.2.1 (by decide) (by decide) ?_
  refine z_bipush (v := 7) dX7_lid_11 (by decide) ?_
  refine z_imul dX7_lid_13 ?_
  refine z_iload_n dX7_lid_14 rfl ?_
  refine z_iadd dX7_lid_15 ?_
  obtain ⟨b1, hf⟩ := zchk hf
  refine z_ialoadL dX7_lid_16 hE ho_o.2.1 b1 rfl ?_
  have e_ := Option.some.inj hf
  subst e_
  exact z_ireturn dX7_lid_17 rfl ⟨h, rfl, rfl, hE⟩
def f_X7_lessenLid (o : Nat) (v1 : Int32) (v2 : Int32) (S : zS) : Option (Unit × zS) :=
zb (f_X7_lid o v1 S) fun r2 S1 =>
zb (f_X7_setLid o v1 (if 0 < (r2 - v2) then (r2 - v2) else 0) S1) fun _ S4 =>
some ((), S4)
theorem w_X7_lessenLid {L : Nat} {xs : Nat → Int32} {fm : Bool} {h0 : Nat → va_E} {t : Nat × Nat × Nat} (hn1 : 64 ≤ t.1) (hn2 : t.1 ≤ 1000000) (d : Nat) {o : Nat} (ho_o : zSc t.1 o) {h : Nat → va_E} {S : zS} (hE : zE (zDc t.1) h0 S (h, t)) {v1 : Int32} {v2 : Int32} {R : Unit × zS} (hf : f_X7_lessenLid o v1 v2 S = some R) : zC (ia_P0 L xs fm) (d + 2) 7014 [.ref o, .int v1, .int v2] (h, t) (zQv (zDc t.1) h0 t R) := by
  refine zC_of mt_7014 nn_7014 (Nat.le_of_ble_eq_true rfl) ?_
  refine zW_lv (lv' := [(0, .ref o), (1, .int v1), (2, .int v2)]) rfl ?_
  unfold f_X7_lessenLid at hf
  refine z_aload_n dX7_lessenLid_0 rfl ?_
  refine z_iload_n dX7_lessenLid_1 rfl ?_
  refine z_iconst (v := 0) dX7_lessenLid_2 (by decide) ?_
  refine z_aload_n dX7_lessenLid_3 rfl ?_
  refine z_iload_n dX7_lessenLid_4 rfl ?_
  obtain ⟨r2, S1, k3, hf⟩ := zb_some hf
  refine z_callVi dX7_lessenLid_5 tM_7_48 mt_7013 (Nat.le_of_ble_eq_true rfl) rfl rfl (z_recv hE ho_o.1 rfl) rfl (by have q0 : o < t.1 := Nat.lt_of_lt_of_le ho_o.2.2 (Nat.le_trans (by decide) hn1); simp [ia_oks, ia_okv, q0]) (Nat.le_of_ble_eq_true rfl) (w_X7_lid hn1 hn2 (d + 0) ho_o hE k3) (fun h hE => ?_)
  refine z_iload_n dX7_lessenLid_8 rfl ?_
  refine z_isub dX7_lessenLid_9 ?_
  refine z_mmax dX7_lessenLid_10 tM_7_52 (Nat.le_of_ble_eq_true rfl) ?_
  obtain ⟨r5, S4, k6, hf⟩ := zb_some hf
  refine z_callVv dX7_lessenLid_13 tM_7_58 mt_7012 (Nat.le_of_ble_eq_true rfl) rfl rfl (z_recv hE ho_o.1 rfl) rfl (by have q0 : o < t.1 := Nat.lt_of_lt_of_le ho_o.2.2 (Nat.le_trans (by decide) hn1); simp [ia_oks, ia_okv, q0]) (Nat.le_of_ble_eq_true rfl) (w_X7_setLid hn1 hn2 (d + 0) ho_o hE k6) (fun h hE => ?_)
  have e_ := Option.some.inj hf
  subst e_
  exact z_vreturn dX7_lessenLid_16 rfl ⟨h, rfl, rfl, hE⟩
def f_X7_tire (o : Nat) (v1 : Int32) (S : zS) : Option (Unit × zS) :=
zb (f_X7_handCell o v1 0 S) fun r2 S1 =>
zb (f_X10_item 1 v1 3 S1) fun r5 S4 =>
zb (f_X7_setHand o v1 0 (if 0 < (r2 - r5) then (r2 - r5) else 0) S4) fun _ S7 =>
zl (sV S7 (o + 1) 65 ((S7.1 (o + 1) 65) + 1)) fun S10 =>
some ((), S10)
theorem w_X7_tire {L : Nat} {xs : Nat → Int32} {fm : Bool} {h0 : Nat → va_E} {t : Nat × Nat × Nat} (hn1 : 64 ≤ t.1) (hn2 : t.1 ≤ 1000000) (d : Nat) {o : Nat} (ho_o : zSc t.1 o) {h : Nat → va_E} {S : zS} (hE : zE (zDc t.1) h0 S (h, t)) {v1 : Int32} {R : Unit × zS} (hf : f_X7_tire o v1 S = some R) : zC (ia_P0 L xs fm) (d + 3) 7015 [.ref o, .int v1] (h, t) (zQv (zDc t.1) h0 t R) := by
  refine zC_of mt_7015 nn_7015 (Nat.le_of_ble_eq_true rfl) ?_
  refine zW_lv (lv' := [(0, .ref o), (1, .int v1)]) rfl ?_
  unfold f_X7_tire at hf
  refine z_aload_n dX7_tire_0 rfl ?_
  refine z_iload_n dX7_tire_1 rfl ?_
  refine z_iconst (v := 0) dX7_tire_2 (by decide) ?_
  refine z_iconst (v := 0) dX7_tire_3 (by decide) ?_
  refine z_aload_n dX7_tire_4 rfl ?_
  refine z_iload_n dX7_tire_5 rfl ?_
  refine z_iconst (v := 0) dX7_tire_6 (by decide) ?_
  obtain ⟨r2, S1, k3, hf⟩ := zb_some hf
  refine z_callVi dX7_tire_7 tM_7_76 mt_7003 (Nat.le_of_ble_eq_true rfl) rfl rfl (z_recv hE ho_o.1 rfl) rfl (by have q0 : o < t.1 := Nat.lt_of_lt_of_le ho_o.2.2 (Nat.le_trans (by decide) hn1); simp [ia_oks, ia_okv, q0]) (Nat.le_of_ble_eq_true rfl) (w_X7_handCell hn1 hn2 (d + 1) ho_o hE k3) (fun h hE => ?_)
  refine z_aload_n dX7_tire_10 rfl ?_
  refine z_getC dX7_tire_11 tF_7_15 hE ho_o.1 rfl rfl ?_
  refine z_iconst (v := 1) dX7_tire_14 (by decide) ?_
  refine z_iload_n dX7_tire_15 rfl ?_
  refine z_iconst (v := 3) dX7_tire_16 (by decide) ?_
  obtain ⟨r5, S4, k6, hf⟩ := zb_some hf
  refine z_callVi dX7_tire_17 tM_7_34 mt_10004 (Nat.le_of_ble_eq_true rfl) rfl rfl (z_recv hE dc_11 rfl) rfl (by have q0 : o < t.1 := Nat.lt_of_lt_of_le ho_o.2.2 (Nat.le_trans (by decide) hn1); simp [ia_oks, ia_okv, q0]) (Nat.le_of_ble_eq_true rfl) (w_X10_item hn1 hn2 (d + 0) hE k6) (fun h hE => ?_)
  refine z_isub dX7_tire_20 ?_
  refine z_mmax dX7_tire_21 tM_7_52 (Nat.le_of_ble_eq_true rfl) ?_
  obtain ⟨r8, S7, k9, hf⟩ := zb_some hf
  refine z_callVv dX7_tire_24 tM_7_38 mt_7002 (Nat.le_of_ble_eq_true rfl) rfl rfl (z_recv hE ho_o.1 rfl) rfl (by have q0 : o < t.1 := Nat.lt_of_lt_of_le ho_o.2.2 (Nat.le_trans (by decide) hn1); simp [ia_oks, ia_okv, q0]) (Nat.le_of_ble_eq_true rfl) (w_X7_setHand hn1 hn2 (d + 1) ho_o hE k9) (fun h hE => ?_)
  refine z_aload_n dX7_tire_27 rfl ?_
  refine z_getC dX7_tire_28 tF_7_9 hE ho_o.1 rfl rfl ?_
  refine z_bipush (v := 65) dX7_tire_31 (by decide) ?_
  refine z_dup2 dX7_tire_33 ⟨rfl, rfl⟩ ?_
  refine z_ialoadL (i := 65) dX7_tire_34 hE ho_o.2.1 (by decide) (by decide) ?_
  refine z_iconst (v := 1) dX7_tire_35 (by decide) ?_
  refine z_iadd dX7_tire_36 ?_
  obtain ⟨S10, eS10, hf⟩ := zl_some hf
  refine z_iastoreL (i := 65) dX7_tire_37 hE ho_o.2.1 (by decide) (by decide) (fun h hE => ?_)
  rw [← eS10] at hE
  have e_ := Option.some.inj hf
  subst e_
  exact z_vreturn dX7_tire_38 rfl ⟨h, rfl, rfl, hE⟩
def f_X7_tryLid (o : Nat) (v1 : Int32) (v2 : Int32) (S : zS) : Option (Unit × zS) :=
zb (f_X7_onTable o S) fun r2 S1 =>
zb (f_X7_hold o r2 S1) fun r5 S4 =>
zl (fun (S9 : zS) =>
zb (f_X7_tire o v1 S9) fun _ S10 =>
some ((), S10)) fun J8 =>
if v2 < r5 then
zb (f_X7_lid o 1 S4) fun r14 S13 =>
zb (f_X7_lessenLid o 1 (v2 / 10) S13) fun _ S16 =>
zb (f_X7_loosenedCell o v1 S16) fun r20 S19 =>
if ia_in r20 66 = true then
zb (f_X7_lid o 1 S19) fun r24 S23 =>
if ia_in r20 66 = true then
zl (sV S23 (o + 1) (r20.toNatClampNeg) ((S19.1 (o + 1) r20.toNatClampNeg) + (r14 - r24))) fun S27 =>
J8 S27
else none
else none
else
zb (f_X7_setLid o 5 1 S4) fun _ S28 =>
J8 S28
theorem w_X7_tryLid {L : Nat} {xs : Nat → Int32} {fm : Bool} {h0 : Nat → va_E} {t : Nat × Nat × Nat} (hn1 : 64 ≤ t.1) (hn2 : t.1 ≤ 1000000) (d : Nat) {o : Nat} (ho_o : zSc t.1 o) {h : Nat → va_E} {S : zS} (hE : zE (zDc t.1) h0 S (h, t)) {v1 : Int32} {v2 : Int32} {R : Unit × zS} (hf : f_X7_tryLid o v1 v2 S = some R) : zC (ia_P0 L xs fm) (d + 4) 7011 [.ref o, .int v1, .int v2] (h, t) (zQv (zDc t.1) h0 t R) := by
  refine zC_of mt_7011 nn_7011 (Nat.le_of_ble_eq_true rfl) ?_
  refine zW_lv (lv' := [(0, .ref o), (1, .int v1), (2, .int v2)]) rfl ?_
  unfold f_X7_tryLid at hf
  refine z_iload_n dX7_tryLid_0 rfl ?_
  refine z_aload_n dX7_tryLid_1 rfl ?_
  refine z_aload_n dX7_tryLid_2 rfl ?_
  obtain ⟨r2, S1, k3, hf⟩ := zb_some hf
  refine z_callVi dX7_tryLid_3 tM_7_90 mt_7010 (Nat.le_of_ble_eq_true rfl) rfl rfl (z_recv hE ho_o.1 rfl) rfl (by have q0 : o < t.1 := Nat.lt_of_lt_of_le ho_o.2.2 (Nat.le_trans (by decide) hn1); simp [ia_oks, ia_okv, q0]) (Nat.le_of_ble_eq_true rfl) (w_X7_onTable hn1 hn2 (d + 2) ho_o hE k3) (fun h hE => ?_)
  obtain ⟨r5, S4, k6, hf⟩ := zb_some hf
  refine z_callVi dX7_tryLid_6 tM_7_96 mt_7009 (Nat.le_of_ble_eq_true rfl) rfl rfl (z_recv hE ho_o.1 rfl) rfl (by have q0 : o < t.1 := Nat.lt_of_lt_of_le ho_o.2.2 (Nat.le_trans (by decide) hn1); simp [ia_oks, ia_okv, q0]) (Nat.le_of_ble_eq_true rfl) (w_X7_hold hn1 hn2 (d + 1) ho_o hE k6) (fun h hE => ?_)
  obtain ⟨J8, eJ8, hf⟩ := zl_some hf
  have hJ8 : ∀ (S9 : zS) (h : Nat → va_E), zE (zDc t.1) h0 S9 (h, t) → J8 S9 = some R → zW (ia_P0 L xs fm) ia_nx (d + 3) 7 false cX7_tryLid 4 (none) 56 [(0, .ref o), (1, .int v1), (2, .int v2)] [] (h, t) (zQv (zDc t.1) h0 t R) := by
    intro S9 h hE hf
    rw [eJ8] at hf
    refine z_aload_n dX7_tryLid_56 rfl ?_
    refine z_iload_n dX7_tryLid_57 rfl ?_
    obtain ⟨r11, S10, k12, hf⟩ := zb_some hf
    refine z_callVv dX7_tryLid_58 tM_7_102 mt_7015 (Nat.le_of_ble_eq_true rfl) rfl rfl (z_recv hE ho_o.1 rfl) rfl (by have q0 : o < t.1 := Nat.lt_of_lt_of_le ho_o.2.2 (Nat.le_trans (by decide) hn1); simp [ia_oks, ia_okv, q0]) (Nat.le_of_ble_eq_true rfl) (w_X7_tire hn1 hn2 (d + 0) ho_o hE k12) (fun h hE => ?_)
    have e_ := Option.some.inj hf
    subst e_
    exact z_vreturn dX7_tryLid_61 rfl ⟨h, rfl, rfl, hE⟩
  by_cases c7 : v2 < r5
  · have hf := zif_t hf c7
    refine z_icmp_lt_t (tgt := 21) dX7_tryLid_9 (by decide) c7 ?_
    refine z_aload_n dX7_tryLid_21 rfl ?_
    refine z_iconst (v := 1) dX7_tryLid_22 (by decide) ?_
    obtain ⟨r14, S13, k15, hf⟩ := zb_some hf
    refine z_callVi dX7_tryLid_23 tM_7_48 mt_7013 (Nat.le_of_ble_eq_true rfl) rfl rfl (z_recv hE ho_o.1 rfl) rfl (by have q0 : o < t.1 := Nat.lt_of_lt_of_le ho_o.2.2 (Nat.le_trans (by decide) hn1); simp [ia_oks, ia_okv, q0]) (Nat.le_of_ble_eq_true rfl) (w_X7_lid hn1 hn2 (d + 2) ho_o hE k15) (fun h hE => ?_)
    refine z_istore_n (lv' := [(3, .int r14), (0, .ref o), (1, .int v1), (2, .int v2)]) dX7_tryLid_26 (by decide) rfl ?_
    refine z_aload_n dX7_tryLid_27 rfl ?_
    refine z_iconst (v := 1) dX7_tryLid_28 (by decide) ?_
    refine z_iload_n dX7_tryLid_29 rfl ?_
    refine z_bipush (v := 10) dX7_tryLid_30 (by decide) ?_
    refine z_idiv dX7_tryLid_32 (by decide) ?_
    obtain ⟨r17, S16, k18, hf⟩ := zb_some hf
    refine z_callVv dX7_tryLid_33 tM_7_99 mt_7014 (Nat.le_of_ble_eq_true rfl) rfl rfl (z_recv hE ho_o.1 rfl) rfl (by have q0 : o < t.1 := Nat.lt_of_lt_of_le ho_o.2.2 (Nat.le_trans (by decide) hn1); simp [ia_oks, ia_okv, q0]) (Nat.le_of_ble_eq_true rfl) (w_X7_lessenLid hn1 hn2 (d + 1) ho_o hE k18) (fun h hE => ?_)
    refine z_aload_n dX7_tryLid_36 rfl ?_
    refine z_getC dX7_tryLid_37 tF_7_9 hE ho_o.1 rfl rfl ?_
    refine z_aload_n dX7_tryLid_40 rfl ?_
    refine z_iload_n dX7_tryLid_41 rfl ?_
    obtain ⟨r20, S19, k21, hf⟩ := zb_some hf
    refine z_callVi dX7_tryLid_42 tM_7_65 mt_7005 (Nat.le_of_ble_eq_true rfl) rfl rfl (z_recv hE ho_o.1 rfl) rfl (by have q0 : o < t.1 := Nat.lt_of_lt_of_le ho_o.2.2 (Nat.le_trans (by decide) hn1); have q1 : o + 1 < t.1 := Nat.lt_of_lt_of_le (Nat.succ_lt_succ ho_o.2.2) (Nat.le_trans (by decide) hn1); simp [ia_oks, ia_okv, q0, q1]) (Nat.le_of_ble_eq_true rfl) (w_X7_loosenedCell hn1 hn2 (d + 2) ho_o hE k21) (fun h hE => ?_)
    refine z_dup2 dX7_tryLid_45 ⟨rfl, rfl⟩ ?_
    obtain ⟨b22, hf⟩ := zchk hf
    refine z_ialoadL dX7_tryLid_46 hE ho_o.2.1 b22 rfl ?_
    refine z_iload_n dX7_tryLid_47 rfl ?_
    refine z_aload_n dX7_tryLid_48 rfl ?_
    refine z_iconst (v := 1) dX7_tryLid_49 (by decide) ?_
    obtain ⟨r24, S23, k25, hf⟩ := zb_some hf
    refine z_callVi dX7_tryLid_50 tM_7_48 mt_7013 (Nat.le_of_ble_eq_true rfl) rfl rfl (z_recv hE ho_o.1 rfl) rfl (by have q0 : o < t.1 := Nat.lt_of_lt_of_le ho_o.2.2 (Nat.le_trans (by decide) hn1); have q1 : o + 1 < t.1 := Nat.lt_of_lt_of_le (Nat.succ_lt_succ ho_o.2.2) (Nat.le_trans (by decide) hn1); simp [ia_oks, ia_okv, q0, q1]) (Nat.le_of_ble_eq_true rfl) (w_X7_lid hn1 hn2 (d + 2) ho_o hE k25) (fun h hE => ?_)
    refine z_isub dX7_tryLid_53 ?_
    refine z_iadd dX7_tryLid_54 ?_
    obtain ⟨b26, hf⟩ := zchk hf
    obtain ⟨S27, eS27, hf⟩ := zl_some hf
    refine z_iastoreL (i := r20.toNatClampNeg) dX7_tryLid_55 hE ho_o.2.1 b26 rfl (fun h hE => ?_)
    rw [← eS27] at hE
    exact zW.sub (hJ8 S27 _ hE hf) [1, 2, 3] rfl rfl rfl rfl
  · have hf := zif_f hf c7
    refine z_icmp_lt_f (tgt := 21) dX7_tryLid_9 (by decide) c7 ?_
    refine z_aload_n dX7_tryLid_12 rfl ?_
    refine z_iconst (v := 5) dX7_tryLid_13 (by decide) ?_
    refine z_iconst (v := 1) dX7_tryLid_14 (by decide) ?_
    obtain ⟨r29, S28, k30, hf⟩ := zb_some hf
    refine z_callVv dX7_tryLid_15 tM_7_58 mt_7012 (Nat.le_of_ble_eq_true rfl) rfl rfl (z_recv hE ho_o.1 rfl) rfl (by have q0 : o < t.1 := Nat.lt_of_lt_of_le ho_o.2.2 (Nat.le_trans (by decide) hn1); simp [ia_oks, ia_okv, q0]) (Nat.le_of_ble_eq_true rfl) (w_X7_setLid hn1 hn2 (d + 2) ho_o hE k30) (fun h hE => ?_)
    refine z_goto (tgt := 56) dX7_tryLid_18 (by decide) ?_
    exact zW.sub (hJ8 S28 _ hE hf) [0, 1, 2] rfl rfl rfl rfl
def f_X7_tryWrongSide (o : Nat) (v1 : Int32) (S : zS) : Option (Unit × zS) :=
zb (f_X7_lid o 1 S) fun r2 S1 =>
zb (f_X7_setLid o 1 (if (r2 + 2) < 99 then (r2 + 2) else 99) S1) fun _ S4 =>
zb (f_X7_tire o v1 S4) fun _ S7 =>
some ((), S7)
theorem w_X7_tryWrongSide {L : Nat} {xs : Nat → Int32} {fm : Bool} {h0 : Nat → va_E} {t : Nat × Nat × Nat} (hn1 : 64 ≤ t.1) (hn2 : t.1 ≤ 1000000) (d : Nat) {o : Nat} (ho_o : zSc t.1 o) {h : Nat → va_E} {S : zS} (hE : zE (zDc t.1) h0 S (h, t)) {v1 : Int32} {R : Unit × zS} (hf : f_X7_tryWrongSide o v1 S = some R) : zC (ia_P0 L xs fm) (d + 4) 7016 [.ref o, .int v1] (h, t) (zQv (zDc t.1) h0 t R) := by
  refine zC_of mt_7016 nn_7016 (Nat.le_of_ble_eq_true rfl) ?_
  refine zW_lv (lv' := [(0, .ref o), (1, .int v1)]) rfl ?_
  unfold f_X7_tryWrongSide at hf
  refine z_aload_n dX7_tryWrongSide_0 rfl ?_
  refine z_iconst (v := 1) dX7_tryWrongSide_1 (by decide) ?_
  refine z_bipush (v := 99) dX7_tryWrongSide_2 (by decide) ?_
  refine z_aload_n dX7_tryWrongSide_4 rfl ?_
  refine z_iconst (v := 1) dX7_tryWrongSide_5 (by decide) ?_
  obtain ⟨r2, S1, k3, hf⟩ := zb_some hf
  refine z_callVi dX7_tryWrongSide_6 tM_7_48 mt_7013 (Nat.le_of_ble_eq_true rfl) rfl rfl (z_recv hE ho_o.1 rfl) rfl (by have q0 : o < t.1 := Nat.lt_of_lt_of_le ho_o.2.2 (Nat.le_trans (by decide) hn1); simp [ia_oks, ia_okv, q0]) (Nat.le_of_ble_eq_true rfl) (w_X7_lid hn1 hn2 (d + 2) ho_o hE k3) (fun h hE => ?_)
  refine z_iconst (v := 2) dX7_tryWrongSide_9 (by decide) ?_
  refine z_iadd dX7_tryWrongSide_10 ?_
  refine z_mmin dX7_tryWrongSide_11 tM_7_106 (Nat.le_of_ble_eq_true rfl) ?_
  obtain ⟨r5, S4, k6, hf⟩ := zb_some hf
  refine z_callVv dX7_tryWrongSide_14 tM_7_58 mt_7012 (Nat.le_of_ble_eq_true rfl) rfl rfl (z_recv hE ho_o.1 rfl) rfl (by have q0 : o < t.1 := Nat.lt_of_lt_of_le ho_o.2.2 (Nat.le_trans (by decide) hn1); simp [ia_oks, ia_okv, q0]) (Nat.le_of_ble_eq_true rfl) (w_X7_setLid hn1 hn2 (d + 2) ho_o hE k6) (fun h hE => ?_)
  refine z_aload_n dX7_tryWrongSide_17 rfl ?_
  refine z_iload_n dX7_tryWrongSide_18 rfl ?_
  obtain ⟨r8, S7, k9, hf⟩ := zb_some hf
  refine z_callVv dX7_tryWrongSide_19 tM_7_102 mt_7015 (Nat.le_of_ble_eq_true rfl) rfl rfl (z_recv hE ho_o.1 rfl) rfl (by have q0 : o < t.1 := Nat.lt_of_lt_of_le ho_o.2.2 (Nat.le_trans (by decide) hn1); simp [ia_oks, ia_okv, q0]) (Nat.le_of_ble_eq_true rfl) (w_X7_tire hn1 hn2 (d + 0) ho_o hE k9) (fun h hE => ?_)
  have e_ := Option.some.inj hf
  subst e_
  exact z_vreturn dX7_tryWrongSide_22 rfl ⟨h, rfl, rfl, hE⟩
def f_X7_minute (o : Nat) (S : zS) : Option (Int32 × zS) :=
some (S.1 (o + 1) 65, S)
theorem w_X7_minute {L : Nat} {xs : Nat → Int32} {fm : Bool} {h0 : Nat → va_E} {t : Nat × Nat × Nat} (hn1 : 64 ≤ t.1) (hn2 : t.1 ≤ 1000000) (d : Nat) {o : Nat} (ho_o : zSc t.1 o) {h : Nat → va_E} {S : zS} (hE : zE (zDc t.1) h0 S (h, t)) {R : Int32 × zS} (hf : f_X7_minute o S = some R) : zC (ia_P0 L xs fm) (d + 1) 7017 [.ref o] (h, t) (zQi (zDc t.1) h0 t R) := by
  refine zC_of mt_7017 nn_7017 (Nat.le_of_ble_eq_true rfl) ?_
  refine zW_lv (lv' := [(0, .ref o)]) rfl ?_
  unfold f_X7_minute at hf
  refine z_aload_n dX7_minute_0 rfl ?_
  refine z_getC dX7_minute_1 tF_7_9 hE ho_o.1 rfl rfl ?_
  refine z_bipush (v := 65) dX7_minute_4 (by decide) ?_
  refine z_ialoadL (i := 65) dX7_minute_6 hE ho_o.2.1 (by decide) (by decide) ?_
  have e_ := Option.some.inj hf
  subst e_
  exact z_ireturn dX7_minute_7 rfl ⟨h, rfl, rfl, hE⟩
def f_X1_note (v1 : Int32) (v2 : Int32) (S : zS) : Option (Unit × zS) :=
if ia_in (S.1 21 7) 60 = true then
zl (sV S 23 ((S.1 21 7).toNatClampNeg) v1) fun S2 =>
if ia_in (S2.1 21 7) 60 = true then
zl (sV S2 24 ((S2.1 21 7).toNatClampNeg) v2) fun S4 =>
zl (sV S4 21 7 (((S4.1 21 7) + 1) - ((S4.1 21 7) + 1) / 60 * 60)) fun S5 =>
zl (sV S5 21 8 (if ((S5.1 21 8) + 1) < 60 then ((S5.1 21 8) + 1) else 60)) fun S6 =>
some ((), S6)
else none
else none
theorem w_X1_note {L : Nat} {xs : Nat → Int32} {fm : Bool} {h0 : Nat → va_E} {t : Nat × Nat × Nat} (hn1 : 64 ≤ t.1) (hn2 : t.1 ≤ 1000000) (d : Nat) {h : Nat → va_E} {S : zS} (hE : zE (zDc t.1) h0 S (h, t)) {v1 : Int32} {v2 : Int32} {R : Unit × zS} (hf : f_X1_note v1 v2 S = some R) : zC (ia_P0 L xs fm) (d + 1) 1003 [.ref 21, .int v1, .int v2] (h, t) (zQv (zDc t.1) h0 t R) := by
  refine zC_of mt_1003 nn_1003 (Nat.le_of_ble_eq_true rfl) ?_
  refine zW_lv (lv' := [(0, .ref 21), (1, .int v1), (2, .int v2)]) rfl ?_
  unfold f_X1_note at hf
  refine z_aload_n dX1_note_0 rfl ?_
  refine z_getC dX1_note_1 tF_1_15 hE dc_21 rfl rfl ?_
  refine z_aload_n dX1_note_4 rfl ?_
  refine z_getI dX1_note_5 tF_1_55 hE dc_21 rfl rfl ?_
  refine z_iload_n dX1_note_8 rfl ?_
  obtain ⟨b1, hf⟩ := zchk hf
  obtain ⟨S2, eS2, hf⟩ := zl_some hf
  refine z_iastoreL (i := (S.1 21 7).toNatClampNeg) dX1_note_9 hE dc_23 b1 rfl (fun h hE => ?_)
  rw [← eS2] at hE
  refine z_aload_n dX1_note_10 rfl ?_
  refine z_getC dX1_note_11 tF_1_18 hE dc_21 rfl rfl ?_
  refine z_aload_n dX1_note_14 rfl ?_
  refine z_getI dX1_note_15 tF_1_55 hE dc_21 rfl rfl ?_
  refine z_iload_n dX1_note_18 rfl ?_
  obtain ⟨b3, hf⟩ := zchk hf
  obtain ⟨S4, eS4, hf⟩ := zl_some hf
  refine z_iastoreL (i := (S2.1 21 7).toNatClampNeg) dX1_note_19 hE dc_24 b3 rfl (fun h hE => ?_)
  rw [← eS4] at hE
  refine z_aload_n dX1_note_20 rfl ?_
  refine z_aload_n dX1_note_21 rfl ?_
  refine z_getI dX1_note_22 tF_1_55 hE dc_21 rfl rfl ?_
  refine z_iconst (v := 1) dX1_note_25 (by decide) ?_
  refine z_iadd dX1_note_26 ?_
  refine z_bipush (v := 60) dX1_note_27 (by decide) ?_
  refine z_irem dX1_note_29 (by decide) ?_
  obtain ⟨S5, eS5, hf⟩ := zl_some hf
  refine z_putI dX1_note_30 tF_1_55 hE dc_21 rfl rfl rfl rfl (fun h hE => ?_)
  rw [← eS5] at hE
  refine z_aload_n dX1_note_33 rfl ?_
  refine z_bipush (v := 60) dX1_note_34 (by decide) ?_
  refine z_aload_n dX1_note_36 rfl ?_
  refine z_getI dX1_note_37 tF_1_28 hE dc_21 rfl rfl ?_
  refine z_iconst (v := 1) dX1_note_40 (by decide) ?_
  refine z_iadd dX1_note_41 ?_
  refine z_mmin dX1_note_42 tM_1_49 (Nat.le_of_ble_eq_true rfl) ?_
  obtain ⟨S6, eS6, hf⟩ := zl_some hf
  refine z_putI dX1_note_45 tF_1_28 hE dc_21 rfl rfl rfl rfl (fun h hE => ?_)
  rw [← eS6] at hE
  have e_ := Option.some.inj hf
  subst e_
  exact z_vreturn dX1_note_48 rfl ⟨h, rfl, rfl, hE⟩
def f_X11_turn (v1 : Int32) (v2 : Int32) (v3 : Int32) (S : zS) : Option (Int32 × zS) :=
zb (f_X11_isHand v1 S) fun r2 S1 =>
if r2 = 0 then
some ((-1), S1)
else
zb (f_X11_isTool v2 S1) fun r6 S5 =>
if r6 = 0 then
some ((-1), S5)
else
if v3 < 0 then
some ((-1), S5)
else
if 1 < v3 then
some ((-1), S5)
else
zb (f_X11_lidIsShut S5) fun r12 S11 =>
if ¬ r12 = 0 then
zb (f_X11_tryCode v1 v2 S11) fun r16 S15 =>
zb (f_X1_keep_17 S15) fun _ S18 =>
zb (f_X7_onTable 17 S18) fun r22 S21 =>
zb (f_X10_item 0 r22 3 S21) fun r25 S24 =>
zl (fun (q30 : Int32) (S29 : zS) =>
zb (f_X7_minute 17 S29) fun r32 S31 =>
zb (f_X1_note q30 r32 S31) fun _ S34 =>
zb (f_X7_lid 17 5 S34) fun r38 S37 =>
some (r38, S37)) fun J28 =>
if ¬ v3 = r25 then
zb (f_X7_tryWrongSide 17 v1 S24) fun _ S40 =>
zl (r16 + 1000) fun (y43 : Int32) =>
J28 y43 S40
else
zb (f_X7_onTable 17 S24) fun r45 S44 =>
zb (f_X7_gripOn 17 v1 v2 r45 S44) fun r48 S47 =>
zb (f_X7_tryLid 17 v1 r48 S47) fun _ S50 =>
J28 r16 S50
else
some ((-1), S11)
theorem w_X11_turn {L : Nat} {xs : Nat → Int32} {fm : Bool} {h0 : Nat → va_E} {t : Nat × Nat × Nat} (hn1 : 64 ≤ t.1) (hn2 : t.1 ≤ 1000000) (d : Nat) {h : Nat → va_E} {S : zS} (hE : zE (zDc t.1) h0 S (h, t)) {v1 : Int32} {v2 : Int32} {v3 : Int32} {R : Int32 × zS} (hf : f_X11_turn v1 v2 v3 S = some R) : zC (ia_P0 L xs fm) (d + 5) 11018 [.ref 0, .int v1, .int v2, .int v3] (h, t) (zQi (zDc t.1) h0 t R) := by
  refine zC_of mt_11018 nn_11018 (Nat.le_of_ble_eq_true rfl) ?_
  refine zW_lv (lv' := [(0, .ref 0), (1, .int v1), (2, .int v2), (3, .int v3)]) rfl ?_
  unfold f_X11_turn at hf
  refine z_aload_n dX11_turn_0 rfl ?_
  refine z_iload_n dX11_turn_1 rfl ?_
  obtain ⟨r2, S1, k3, hf⟩ := zb_some hf
  refine z_callVi dX11_turn_2 tM_11_196 mt_11009 (Nat.le_of_ble_eq_true rfl) rfl rfl (z_recv hE dc_0 rfl) rfl (ia_oks_le hn1 rfl) (Nat.le_of_ble_eq_true rfl) (w_X11_isHand hn1 hn2 (d + 3) hE k3) (fun h hE => ?_)
  by_cases c4 : r2 = 0
  · have hf := zif_t hf c4
    refine z_if_eq_t (tgt := 32) dX11_turn_5 (by decide) c4 ?_
    refine z_iconst (v := (-1)) dX11_turn_32 (by decide) ?_
    have e_ := Option.some.inj hf
    subst e_
    exact z_ireturn dX11_turn_33 rfl ⟨h, rfl, rfl, hE⟩
  · have hf := zif_f hf c4
    refine z_if_eq_f (tgt := 32) dX11_turn_5 (by decide) c4 ?_
    refine z_aload_n dX11_turn_8 rfl ?_
    refine z_iload_n dX11_turn_9 rfl ?_
    obtain ⟨r6, S5, k7, hf⟩ := zb_some hf
    refine z_callVi dX11_turn_10 tM_11_205 mt_11011 (Nat.le_of_ble_eq_true rfl) rfl rfl (z_recv hE dc_0 rfl) rfl (ia_oks_le hn1 rfl) (Nat.le_of_ble_eq_true rfl) (w_X11_isTool hn1 hn2 (d + 3) hE k7) (fun h hE => ?_)
    by_cases c8 : r6 = 0
    · have hf := zif_t hf c8
      refine z_if_eq_t (tgt := 32) dX11_turn_13 (by decide) c8 ?_
      refine z_iconst (v := (-1)) dX11_turn_32 (by decide) ?_
      have e_ := Option.some.inj hf
      subst e_
      exact z_ireturn dX11_turn_33 rfl ⟨h, rfl, rfl, hE⟩
    · have hf := zif_f hf c8
      refine z_if_eq_f (tgt := 32) dX11_turn_13 (by decide) c8 ?_
      refine z_iload_n dX11_turn_16 rfl ?_
      by_cases c9 : v3 < 0
      · have hf := zif_t hf c9
        refine z_if_lt_t (tgt := 32) dX11_turn_17 (by decide) c9 ?_
        refine z_iconst (v := (-1)) dX11_turn_32 (by decide) ?_
        have e_ := Option.some.inj hf
        subst e_
        exact z_ireturn dX11_turn_33 rfl ⟨h, rfl, rfl, hE⟩
      · have hf := zif_f hf c9
        refine z_if_lt_f (tgt := 32) dX11_turn_17 (by decide) c9 ?_
        refine z_iload_n dX11_turn_20 rfl ?_
        refine z_iconst (v := 1) dX11_turn_21 (by decide) ?_
        by_cases c10 : 1 < v3
        · have hf := zif_t hf c10
          refine z_icmp_gt_t (tgt := 32) dX11_turn_22 (by decide) c10 ?_
          refine z_iconst (v := (-1)) dX11_turn_32 (by decide) ?_
          have e_ := Option.some.inj hf
          subst e_
          exact z_ireturn dX11_turn_33 rfl ⟨h, rfl, rfl, hE⟩
        · have hf := zif_f hf c10
          refine z_icmp_gt_f (tgt := 32) dX11_turn_22 (by decide) c10 ?_
          refine z_aload_n dX11_turn_25 rfl ?_
          obtain ⟨r12, S11, k13, hf⟩ := zb_some hf
          refine z_callVi dX11_turn_26 tM_11_223 mt_11019 (Nat.le_of_ble_eq_true rfl) rfl rfl (z_recv hE dc_0 rfl) rfl (ia_oks_le hn1 rfl) (Nat.le_of_ble_eq_true rfl) (w_X11_lidIsShut hn1 hn2 (d + 1) hE k13) (fun h hE => ?_)
          by_cases c14 : ¬ r12 = 0
          · have hf := zif_t hf c14
            refine z_if_ne_t (tgt := 34) dX11_turn_29 (by decide) c14 ?_
            refine z_iload_n dX11_turn_34 rfl ?_
            refine z_iload_n dX11_turn_35 rfl ?_
            obtain ⟨r16, S15, k17, hf⟩ := zb_some hf
            refine z_callSi dX11_turn_36 tM_11_227 (by decide) mt_11020 (Nat.le_of_ble_eq_true rfl) rfl rfl (ia_oks_le hn1 rfl) (Nat.le_of_ble_eq_true rfl) (w_X11_tryCode hn1 hn2 (d + 3) hE k17) (fun h hE => ?_)
            refine z_istore (lv' := [(4, .int r16), (0, .ref 0), (1, .int v1), (2, .int v2), (3, .int v3)]) dX11_turn_39 (by decide) rfl ?_
            refine z_aload_n dX11_turn_41 rfl ?_
            refine z_getC dX11_turn_42 tF_11_68 hE dc_0 rfl rfl ?_
            refine z_aload_n dX11_turn_45 rfl ?_
            refine z_getC dX11_turn_46 tF_11_58 hE dc_0 rfl rfl ?_
            obtain ⟨r19, S18, k20, hf⟩ := zb_some hf
            refine z_callVv dX11_turn_49 tM_11_230 mt_1002 (Nat.le_of_ble_eq_true rfl) rfl rfl (z_recv hE dc_21 rfl) rfl (ia_oks_le hn1 rfl) (Nat.le_of_ble_eq_true rfl) (w_X1_keep_17 hn1 hn2 (d + 3) hE k20) (fun h hE => ?_)
            refine z_iload_n dX11_turn_52 rfl ?_
            refine z_aload_n dX11_turn_53 rfl ?_
            refine z_getC dX11_turn_54 tF_11_42 hE dc_0 rfl rfl ?_
            refine z_iconst (v := 0) dX11_turn_57 (by decide) ?_
            refine z_aload_n dX11_turn_58 rfl ?_
            refine z_getC dX11_turn_59 tF_11_58 hE dc_0 rfl rfl ?_
            obtain ⟨r22, S21, k23, hf⟩ := zb_some hf
            refine z_callVi dX11_turn_62 tM_11_234 mt_7010 (Nat.le_of_ble_eq_true rfl) rfl rfl (z_recv hE dc_17 rfl) rfl (ia_oks_le hn1 rfl) (Nat.le_of_ble_eq_true rfl) (w_X7_onTable hn1 hn2 (d + 3) sc_17 hE k23) (fun h hE => ?_)
            refine z_iconst (v := 3) dX11_turn_65 (by decide) ?_
            obtain ⟨r25, S24, k26, hf⟩ := zb_some hf
            refine z_callVi dX11_turn_66 tM_11_192 mt_10004 (Nat.le_of_ble_eq_true rfl) rfl rfl (z_recv hE dc_11 rfl) rfl (ia_oks_le hn1 rfl) (Nat.le_of_ble_eq_true rfl) (w_X10_item hn1 hn2 (d + 2) hE k26) (fun h hE => ?_)
            obtain ⟨J28, eJ28, hf⟩ := zl_some hf
            have hJ28 : ∀ (q30 : Int32) (S29 : zS) (h : Nat → va_E), zE (zDc t.1) h0 S29 (h, t) → J28 q30 S29 = some R → zW (ia_P0 L xs fm) ia_nx (d + 4) 11 false cX11_turn 5 (some .int) 113 [(0, .ref 0), (1, .int v1), (2, .int v2), (3, .int v3), (4, .int q30)] [] (h, t) (zQi (zDc t.1) h0 t R) := by
              intro q30 S29 h hE hf
              rw [eJ28] at hf
              refine z_aload_n dX11_turn_113 rfl ?_
              refine z_getC dX11_turn_114 tF_11_68 hE dc_0 rfl rfl ?_
              refine z_iload dX11_turn_117 rfl ?_
              refine z_aload_n dX11_turn_119 rfl ?_
              refine z_getC dX11_turn_120 tF_11_58 hE dc_0 rfl rfl ?_
              obtain ⟨r32, S31, k33, hf⟩ := zb_some hf
              refine z_callVi dX11_turn_123 tM_11_244 mt_7017 (Nat.le_of_ble_eq_true rfl) rfl rfl (z_recv hE dc_17 rfl) rfl (ia_oks_le hn1 rfl) (Nat.le_of_ble_eq_true rfl) (w_X7_minute hn1 hn2 (d + 3) sc_17 hE k33) (fun h hE => ?_)
              obtain ⟨r35, S34, k36, hf⟩ := zb_some hf
              refine z_callVv dX11_turn_126 tM_11_247 mt_1003 (Nat.le_of_ble_eq_true rfl) rfl rfl (z_recv hE dc_21 rfl) rfl (ia_oks_le hn1 rfl) (Nat.le_of_ble_eq_true rfl) (w_X1_note hn1 hn2 (d + 3) hE k36) (fun h hE => ?_)
              refine z_aload_n dX11_turn_129 rfl ?_
              refine z_getC dX11_turn_130 tF_11_58 hE dc_0 rfl rfl ?_
              refine z_iconst (v := 5) dX11_turn_133 (by decide) ?_
              obtain ⟨r38, S37, k39, hf⟩ := zb_some hf
              refine z_callVi dX11_turn_134 tM_11_250 mt_7013 (Nat.le_of_ble_eq_true rfl) rfl rfl (z_recv hE dc_17 rfl) rfl (ia_oks_le hn1 rfl) (Nat.le_of_ble_eq_true rfl) (w_X7_lid hn1 hn2 (d + 3) sc_17 hE k39) (fun h hE => ?_)
              have e_ := Option.some.inj hf
              subst e_
              exact z_ireturn dX11_turn_137 rfl ⟨h, rfl, rfl, hE⟩
            by_cases c27 : ¬ v3 = r25
            · have hf := zif_t hf c27
              refine z_icmp_ne_t (tgt := 99) dX11_turn_69 (by decide) c27 ?_
              refine z_aload_n dX11_turn_99 rfl ?_
              refine z_getC dX11_turn_100 tF_11_58 hE dc_0 rfl rfl ?_
              refine z_iload_n dX11_turn_103 rfl ?_
              obtain ⟨r41, S40, k42, hf⟩ := zb_some hf
              refine z_callVv dX11_turn_104 tM_11_241 mt_7016 (Nat.le_of_ble_eq_true rfl) rfl rfl (z_recv hE dc_17 rfl) rfl (ia_oks_le hn1 rfl) (Nat.le_of_ble_eq_true rfl) (w_X7_tryWrongSide hn1 hn2 (d + 0) sc_17 hE k42) (fun h hE => ?_)
              obtain ⟨y43, ey43, hf⟩ := zl_some hf
              refine z_iincYW (v := 1000) (y := y43) (lv' := [(4, .int y43), (0, .ref 0), (1, .int v1), (2, .int v2), (3, .int v3)]) dX11_turn_107 rfl (by decide) (by decide) ey43 rfl ?_
              exact zW.sub (hJ28 y43 S40 _ hE hf) [1, 2, 3, 4, 0] rfl rfl rfl rfl
            · have hf := zif_f hf c27
              refine z_icmp_ne_f (tgt := 99) dX11_turn_69 (by decide) c27 ?_
              refine z_aload_n dX11_turn_72 rfl ?_
              refine z_getC dX11_turn_73 tF_11_58 hE dc_0 rfl rfl ?_
              refine z_iload_n dX11_turn_76 rfl ?_
              refine z_aload_n dX11_turn_77 rfl ?_
              refine z_getC dX11_turn_78 tF_11_58 hE dc_0 rfl rfl ?_
              refine z_iload_n dX11_turn_81 rfl ?_
              refine z_iload_n dX11_turn_82 rfl ?_
              refine z_aload_n dX11_turn_83 rfl ?_
              refine z_getC dX11_turn_84 tF_11_58 hE dc_0 rfl rfl ?_
              obtain ⟨r45, S44, k46, hf⟩ := zb_some hf
              refine z_callVi dX11_turn_87 tM_11_234 mt_7010 (Nat.le_of_ble_eq_true rfl) rfl rfl (z_recv hE dc_17 rfl) rfl (ia_oks_le hn1 rfl) (Nat.le_of_ble_eq_true rfl) (w_X7_onTable hn1 hn2 (d + 3) sc_17 hE k46) (fun h hE => ?_)
              obtain ⟨r48, S47, k49, hf⟩ := zb_some hf
              refine z_callVi dX11_turn_90 tM_11_212 mt_7006 (Nat.le_of_ble_eq_true rfl) rfl rfl (z_recv hE dc_17 rfl) rfl (ia_oks_le hn1 rfl) (Nat.le_of_ble_eq_true rfl) (w_X7_gripOn hn1 hn2 (d + 1) sc_17 hE k49) (fun h hE => ?_)
              obtain ⟨r51, S50, k52, hf⟩ := zb_some hf
              refine z_callVv dX11_turn_93 tM_11_237 mt_7011 (Nat.le_of_ble_eq_true rfl) rfl rfl (z_recv hE dc_17 rfl) rfl (ia_oks_le hn1 rfl) (Nat.le_of_ble_eq_true rfl) (w_X7_tryLid hn1 hn2 (d + 0) sc_17 hE k52) (fun h hE => ?_)
              refine z_goto (tgt := 113) dX11_turn_96 (by decide) ?_
              exact zW.sub (hJ28 r16 S50 _ hE hf) [1, 2, 3, 4, 0] rfl rfl rfl rfl
          · have hf := zif_f hf c14
            refine z_if_ne_f (tgt := 34) dX11_turn_29 (by decide) c14 ?_
            refine z_iconst (v := (-1)) dX11_turn_32 (by decide) ?_
            have e_ := Option.some.inj hf
            subst e_
            exact z_ireturn dX11_turn_33 rfl ⟨h, rfl, rfl, hE⟩
def f_X7_warm (o : Nat) (v1 : Int32) (S : zS) : Option (Unit × zS) :=
zb (f_X7_lid o 3 S) fun r2 S1 =>
zb (f_X7_setLid o 3 (r2 + v1) S1) fun _ S4 =>
zb (f_X7_lessenLid o 2 (v1 / 10) S4) fun _ S7 =>
zb (f_X7_lessenLid o 1 (v1 / 5) S7) fun _ S10 =>
zb (f_X7_lid o 3 S10) fun r14 S13 =>
zb (f_X7_onTable o S13) fun r17 S16 =>
zb (f_X10_item 0 r17 5 S16) fun r20 S19 =>
zl (fun (S24 : zS) =>
zl (sV S24 (o + 1) 65 ((S24.1 (o + 1) 65) + 1)) fun S25 =>
some ((), S25)) fun J23 =>
if r14 ≤ r20 then
J23 S19
else
zb (f_X7_setLid o 6 1 S19) fun _ S26 =>
J23 S26
theorem w_X7_warm {L : Nat} {xs : Nat → Int32} {fm : Bool} {h0 : Nat → va_E} {t : Nat × Nat × Nat} (hn1 : 64 ≤ t.1) (hn2 : t.1 ≤ 1000000) (d : Nat) {o : Nat} (ho_o : zSc t.1 o) {h : Nat → va_E} {S : zS} (hE : zE (zDc t.1) h0 S (h, t)) {v1 : Int32} {R : Unit × zS} (hf : f_X7_warm o v1 S = some R) : zC (ia_P0 L xs fm) (d + 3) 7018 [.ref o, .int v1] (h, t) (zQv (zDc t.1) h0 t R) := by
  refine zC_of mt_7018 nn_7018 (Nat.le_of_ble_eq_true rfl) ?_
  refine zW_lv (lv' := [(0, .ref o), (1, .int v1)]) rfl ?_
  unfold f_X7_warm at hf
  refine z_aload_n dX7_warm_0 rfl ?_
  refine z_iconst (v := 3) dX7_warm_1 (by decide) ?_
  refine z_aload_n dX7_warm_2 rfl ?_
  refine z_iconst (v := 3) dX7_warm_3 (by decide) ?_
  obtain ⟨r2, S1, k3, hf⟩ := zb_some hf
  refine z_callVi dX7_warm_4 tM_7_48 mt_7013 (Nat.le_of_ble_eq_true rfl) rfl rfl (z_recv hE ho_o.1 rfl) rfl (by have q0 : o < t.1 := Nat.lt_of_lt_of_le ho_o.2.2 (Nat.le_trans (by decide) hn1); simp [ia_oks, ia_okv, q0]) (Nat.le_of_ble_eq_true rfl) (w_X7_lid hn1 hn2 (d + 1) ho_o hE k3) (fun h hE => ?_)
  refine z_iload_n dX7_warm_7 rfl ?_
  refine z_iadd dX7_warm_8 ?_
  obtain ⟨r5, S4, k6, hf⟩ := zb_some hf
  refine z_callVv dX7_warm_9 tM_7_58 mt_7012 (Nat.le_of_ble_eq_true rfl) rfl rfl (z_recv hE ho_o.1 rfl) rfl (by have q0 : o < t.1 := Nat.lt_of_lt_of_le ho_o.2.2 (Nat.le_trans (by decide) hn1); simp [ia_oks, ia_okv, q0]) (Nat.le_of_ble_eq_true rfl) (w_X7_setLid hn1 hn2 (d + 1) ho_o hE k6) (fun h hE => ?_)
  refine z_aload_n dX7_warm_12 rfl ?_
  refine z_iconst (v := 2) dX7_warm_13 (by decide) ?_
  refine z_iload_n dX7_warm_14 rfl ?_
  refine z_bipush (v := 10) dX7_warm_15 (by decide) ?_
  refine z_idiv dX7_warm_17 (by decide) ?_
  obtain ⟨r8, S7, k9, hf⟩ := zb_some hf
  refine z_callVv dX7_warm_18 tM_7_99 mt_7014 (Nat.le_of_ble_eq_true rfl) rfl rfl (z_recv hE ho_o.1 rfl) rfl (by have q0 : o < t.1 := Nat.lt_of_lt_of_le ho_o.2.2 (Nat.le_trans (by decide) hn1); simp [ia_oks, ia_okv, q0]) (Nat.le_of_ble_eq_true rfl) (w_X7_lessenLid hn1 hn2 (d + 0) ho_o hE k9) (fun h hE => ?_)
  refine z_aload_n dX7_warm_21 rfl ?_
  refine z_iconst (v := 1) dX7_warm_22 (by decide) ?_
  refine z_iload_n dX7_warm_23 rfl ?_
  refine z_iconst (v := 5) dX7_warm_24 (by decide) ?_
  refine z_idiv dX7_warm_25 (by decide) ?_
  obtain ⟨r11, S10, k12, hf⟩ := zb_some hf
  refine z_callVv dX7_warm_26 tM_7_99 mt_7014 (Nat.le_of_ble_eq_true rfl) rfl rfl (z_recv hE ho_o.1 rfl) rfl (by have q0 : o < t.1 := Nat.lt_of_lt_of_le ho_o.2.2 (Nat.le_trans (by decide) hn1); simp [ia_oks, ia_okv, q0]) (Nat.le_of_ble_eq_true rfl) (w_X7_lessenLid hn1 hn2 (d + 0) ho_o hE k12) (fun h hE => ?_)
  refine z_aload_n dX7_warm_29 rfl ?_
  refine z_iconst (v := 3) dX7_warm_30 (by decide) ?_
  obtain ⟨r14, S13, k15, hf⟩ := zb_some hf
  refine z_callVi dX7_warm_31 tM_7_48 mt_7013 (Nat.le_of_ble_eq_true rfl) rfl rfl (z_recv hE ho_o.1 rfl) rfl (by have q0 : o < t.1 := Nat.lt_of_lt_of_le ho_o.2.2 (Nat.le_trans (by decide) hn1); simp [ia_oks, ia_okv, q0]) (Nat.le_of_ble_eq_true rfl) (w_X7_lid hn1 hn2 (d + 1) ho_o hE k15) (fun h hE => ?_)
  refine z_aload_n dX7_warm_34 rfl ?_
  refine z_getC dX7_warm_35 tF_7_15 hE ho_o.1 rfl rfl ?_
  refine z_iconst (v := 0) dX7_warm_38 (by decide) ?_
  refine z_aload_n dX7_warm_39 rfl ?_
  obtain ⟨r17, S16, k18, hf⟩ := zb_some hf
  refine z_callVi dX7_warm_40 tM_7_90 mt_7010 (Nat.le_of_ble_eq_true rfl) rfl rfl (z_recv hE ho_o.1 rfl) rfl (by have q0 : o < t.1 := Nat.lt_of_lt_of_le ho_o.2.2 (Nat.le_trans (by decide) hn1); have q1 : 11 < t.1 := Nat.lt_of_lt_of_le (by decide) hn1; simp [ia_oks, ia_okv, q0, q1]) (Nat.le_of_ble_eq_true rfl) (w_X7_onTable hn1 hn2 (d + 1) ho_o hE k18) (fun h hE => ?_)
  refine z_iconst (v := 5) dX7_warm_43 (by decide) ?_
  obtain ⟨r20, S19, k21, hf⟩ := zb_some hf
  refine z_callVi dX7_warm_44 tM_7_34 mt_10004 (Nat.le_of_ble_eq_true rfl) rfl rfl (z_recv hE dc_11 rfl) rfl (by have q0 : o < t.1 := Nat.lt_of_lt_of_le ho_o.2.2 (Nat.le_trans (by decide) hn1); simp [ia_oks, ia_okv, q0]) (Nat.le_of_ble_eq_true rfl) (w_X10_item hn1 hn2 (d + 0) hE k21) (fun h hE => ?_)
  obtain ⟨J23, eJ23, hf⟩ := zl_some hf
  have hJ23 : ∀ (S24 : zS) (h : Nat → va_E), zE (zDc t.1) h0 S24 (h, t) → J23 S24 = some R → zW (ia_P0 L xs fm) ia_nx (d + 2) 7 false cX7_warm 2 (none) 57 [(0, .ref o), (1, .int v1)] [] (h, t) (zQv (zDc t.1) h0 t R) := by
    intro S24 h hE hf
    rw [eJ23] at hf
    refine z_aload_n dX7_warm_57 rfl ?_
    refine z_getC dX7_warm_58 tF_7_9 hE ho_o.1 rfl rfl ?_
    refine z_bipush (v := 65) dX7_warm_61 (by decide) ?_
    refine z_dup2 dX7_warm_63 ⟨rfl, rfl⟩ ?_
    refine z_ialoadL (i := 65) dX7_warm_64 hE ho_o.2.1 (by decide) (by decide) ?_
    refine z_iconst (v := 1) dX7_warm_65 (by decide) ?_
    refine z_iadd dX7_warm_66 ?_
    obtain ⟨S25, eS25, hf⟩ := zl_some hf
    refine z_iastoreL (i := 65) dX7_warm_67 hE ho_o.2.1 (by decide) (by decide) (fun h hE => ?_)
    rw [← eS25] at hE
    have e_ := Option.some.inj hf
    subst e_
    exact z_vreturn dX7_warm_68 rfl ⟨h, rfl, rfl, hE⟩
  by_cases c22 : r14 ≤ r20
  · have hf := zif_t hf c22
    refine z_icmp_le_t (tgt := 57) dX7_warm_47 (by decide) c22 ?_
    exact zW.sub (hJ23 S19 _ hE hf) [0, 1] rfl rfl rfl rfl
  · have hf := zif_f hf c22
    refine z_icmp_le_f (tgt := 57) dX7_warm_47 (by decide) c22 ?_
    refine z_aload_n dX7_warm_50 rfl ?_
    refine z_bipush (v := 6) dX7_warm_51 (by decide) ?_
    refine z_iconst (v := 1) dX7_warm_53 (by decide) ?_
    obtain ⟨r27, S26, k28, hf⟩ := zb_some hf
    refine z_callVv dX7_warm_54 tM_7_58 mt_7012 (Nat.le_of_ble_eq_true rfl) rfl rfl (z_recv hE ho_o.1 rfl) rfl (by have q0 : o < t.1 := Nat.lt_of_lt_of_le ho_o.2.2 (Nat.le_trans (by decide) hn1); simp [ia_oks, ia_okv, q0]) (Nat.le_of_ble_eq_true rfl) (w_X7_setLid hn1 hn2 (d + 1) ho_o hE k28) (fun h hE => ?_)
    exact zW.sub (hJ23 S26 _ hE hf) [0, 1] rfl rfl rfl rfl
def f_X11_heat (v1 : Int32) (S : zS) : Option (Int32 × zS) :=
if v1 < 1 then
some ((-1), S)
else
if 60 < v1 then
some ((-1), S)
else
zb (f_X11_lidIsShut S) fun r4 S3 =>
if ¬ r4 = 0 then
zb (f_X1_keep_17 S3) fun _ S7 =>
zb (f_X7_warm 17 v1 S7) fun _ S10 =>
zl (fun (q15 : Int32) =>
zb (f_X7_minute 17 S10) fun r17 S16 =>
zb (f_X1_note q15 r17 S16) fun _ S19 =>
zb (f_X7_lid 17 6 S19) fun r23 S22 =>
some (r23, S22)) fun J14 =>
if ¬ v1 = 10 then
J14 5
else
J14 3
else
some ((-1), S3)
theorem w_X11_heat {L : Nat} {xs : Nat → Int32} {fm : Bool} {h0 : Nat → va_E} {t : Nat × Nat × Nat} (hn1 : 64 ≤ t.1) (hn2 : t.1 ≤ 1000000) (d : Nat) {h : Nat → va_E} {S : zS} (hE : zE (zDc t.1) h0 S (h, t)) {v1 : Int32} {R : Int32 × zS} (hf : f_X11_heat v1 S = some R) : zC (ia_P0 L xs fm) (d + 4) 11021 [.ref 0, .int v1] (h, t) (zQi (zDc t.1) h0 t R) := by
  refine zC_of mt_11021 nn_11021 (Nat.le_of_ble_eq_true rfl) ?_
  refine zW_lv (lv' := [(0, .ref 0), (1, .int v1)]) rfl ?_
  unfold f_X11_heat at hf
  refine z_iload_n dX11_heat_0 rfl ?_
  refine z_iconst (v := 1) dX11_heat_1 (by decide) ?_
  by_cases c1 : v1 < 1
  · have hf := zif_t hf c1
    refine z_icmp_lt_t (tgt := 18) dX11_heat_2 (by decide) c1 ?_
    refine z_iconst (v := (-1)) dX11_heat_18 (by decide) ?_
    have e_ := Option.some.inj hf
    subst e_
    exact z_ireturn dX11_heat_19 rfl ⟨h, rfl, rfl, hE⟩
  · have hf := zif_f hf c1
    refine z_icmp_lt_f (tgt := 18) dX11_heat_2 (by decide) c1 ?_
    refine z_iload_n dX11_heat_5 rfl ?_
    refine z_bipush (v := 60) dX11_heat_6 (by decide) ?_
    by_cases c2 : 60 < v1
    · have hf := zif_t hf c2
      refine z_icmp_gt_t (tgt := 18) dX11_heat_8 (by decide) c2 ?_
      refine z_iconst (v := (-1)) dX11_heat_18 (by decide) ?_
      have e_ := Option.some.inj hf
      subst e_
      exact z_ireturn dX11_heat_19 rfl ⟨h, rfl, rfl, hE⟩
    · have hf := zif_f hf c2
      refine z_icmp_gt_f (tgt := 18) dX11_heat_8 (by decide) c2 ?_
      refine z_aload_n dX11_heat_11 rfl ?_
      obtain ⟨r4, S3, k5, hf⟩ := zb_some hf
      refine z_callVi dX11_heat_12 tM_11_223 mt_11019 (Nat.le_of_ble_eq_true rfl) rfl rfl (z_recv hE dc_0 rfl) rfl (ia_oks_le hn1 rfl) (Nat.le_of_ble_eq_true rfl) (w_X11_lidIsShut hn1 hn2 (d + 0) hE k5) (fun h hE => ?_)
      by_cases c6 : ¬ r4 = 0
      · have hf := zif_t hf c6
        refine z_if_ne_t (tgt := 20) dX11_heat_15 (by decide) c6 ?_
        refine z_aload_n dX11_heat_20 rfl ?_
        refine z_getC dX11_heat_21 tF_11_68 hE dc_0 rfl rfl ?_
        refine z_aload_n dX11_heat_24 rfl ?_
        refine z_getC dX11_heat_25 tF_11_58 hE dc_0 rfl rfl ?_
        obtain ⟨r8, S7, k9, hf⟩ := zb_some hf
        refine z_callVv dX11_heat_28 tM_11_230 mt_1002 (Nat.le_of_ble_eq_true rfl) rfl rfl (z_recv hE dc_21 rfl) rfl (ia_oks_le hn1 rfl) (Nat.le_of_ble_eq_true rfl) (w_X1_keep_17 hn1 hn2 (d + 2) hE k9) (fun h hE => ?_)
        refine z_aload_n dX11_heat_31 rfl ?_
        refine z_getC dX11_heat_32 tF_11_58 hE dc_0 rfl rfl ?_
        refine z_iload_n dX11_heat_35 rfl ?_
        obtain ⟨r11, S10, k12, hf⟩ := zb_some hf
        refine z_callVv dX11_heat_36 tM_11_253 mt_7018 (Nat.le_of_ble_eq_true rfl) rfl rfl (z_recv hE dc_17 rfl) rfl (ia_oks_le hn1 rfl) (Nat.le_of_ble_eq_true rfl) (w_X7_warm hn1 hn2 (d + 0) sc_17 hE k12) (fun h hE => ?_)
        refine z_aload_n dX11_heat_39 rfl ?_
        refine z_getC dX11_heat_40 tF_11_68 hE dc_0 rfl rfl ?_
        refine z_iload_n dX11_heat_43 rfl ?_
        refine z_bipush (v := 10) dX11_heat_44 (by decide) ?_
        obtain ⟨J14, eJ14, hf⟩ := zl_some hf
        have hJ14 : ∀ (q15 : Int32) (h : Nat → va_E), zE (zDc t.1) h0 S10 (h, t) → J14 q15 = some R → zW (ia_P0 L xs fm) ia_nx (d + 3) 11 false cX11_heat 2 (some .int) 54 [(0, .ref 0), (1, .int v1)] [.int q15, .ref 21] (h, t) (zQi (zDc t.1) h0 t R) := by
          intro q15 h hE hf
          rw [eJ14] at hf
          refine z_aload_n dX11_heat_54 rfl ?_
          refine z_getC dX11_heat_55 tF_11_58 hE dc_0 rfl rfl ?_
          obtain ⟨r17, S16, k18, hf⟩ := zb_some hf
          refine z_callVi dX11_heat_58 tM_11_244 mt_7017 (Nat.le_of_ble_eq_true rfl) rfl rfl (z_recv hE dc_17 rfl) rfl (ia_oks_le hn1 rfl) (Nat.le_of_ble_eq_true rfl) (w_X7_minute hn1 hn2 (d + 2) sc_17 hE k18) (fun h hE => ?_)
          obtain ⟨r20, S19, k21, hf⟩ := zb_some hf
          refine z_callVv dX11_heat_61 tM_11_247 mt_1003 (Nat.le_of_ble_eq_true rfl) rfl rfl (z_recv hE dc_21 rfl) rfl (ia_oks_le hn1 rfl) (Nat.le_of_ble_eq_true rfl) (w_X1_note hn1 hn2 (d + 2) hE k21) (fun h hE => ?_)
          refine z_aload_n dX11_heat_64 rfl ?_
          refine z_getC dX11_heat_65 tF_11_58 hE dc_0 rfl rfl ?_
          refine z_bipush (v := 6) dX11_heat_68 (by decide) ?_
          obtain ⟨r23, S22, k24, hf⟩ := zb_some hf
          refine z_callVi dX11_heat_70 tM_11_250 mt_7013 (Nat.le_of_ble_eq_true rfl) rfl rfl (z_recv hE dc_17 rfl) rfl (ia_oks_le hn1 rfl) (Nat.le_of_ble_eq_true rfl) (w_X7_lid hn1 hn2 (d + 2) sc_17 hE k24) (fun h hE => ?_)
          have e_ := Option.some.inj hf
          subst e_
          exact z_ireturn dX11_heat_73 rfl ⟨h, rfl, rfl, hE⟩
        by_cases c13 : ¬ v1 = 10
        · have hf := zif_t hf c13
          refine z_icmp_ne_t (tgt := 53) dX11_heat_46 (by decide) c13 ?_
          refine z_iconst (v := 5) dX11_heat_53 (by decide) ?_
          exact zW.sub (hJ14 5 _ hE hf) [0, 1] rfl rfl rfl rfl
        · have hf := zif_f hf c13
          refine z_icmp_ne_f (tgt := 53) dX11_heat_46 (by decide) c13 ?_
          refine z_iconst (v := 3) dX11_heat_49 (by decide) ?_
          refine z_goto (tgt := 54) dX11_heat_50 (by decide) ?_
          exact zW.sub (hJ14 3 _ hE hf) [0, 1] rfl rfl rfl rfl
      · have hf := zif_f hf c6
        refine z_if_ne_f (tgt := 20) dX11_heat_15 (by decide) c6 ?_
        refine z_iconst (v := (-1)) dX11_heat_18 (by decide) ?_
        have e_ := Option.some.inj hf
        subst e_
        exact z_ireturn dX11_heat_19 rfl ⟨h, rfl, rfl, hE⟩
def f_X7_chill (o : Nat) (S : zS) : Option (Unit × zS) :=
zb (f_X7_lid o 2 S) fun r2 S1 =>
zb (f_X7_setLid o 2 (if (r2 + 3) < 9 then (r2 + 3) else 9) S1) fun _ S4 =>
zl (sV S4 (o + 1) 65 ((S4.1 (o + 1) 65) + 1)) fun S7 =>
some ((), S7)
theorem w_X7_chill {L : Nat} {xs : Nat → Int32} {fm : Bool} {h0 : Nat → va_E} {t : Nat × Nat × Nat} (hn1 : 64 ≤ t.1) (hn2 : t.1 ≤ 1000000) (d : Nat) {o : Nat} (ho_o : zSc t.1 o) {h : Nat → va_E} {S : zS} (hE : zE (zDc t.1) h0 S (h, t)) {R : Unit × zS} (hf : f_X7_chill o S = some R) : zC (ia_P0 L xs fm) (d + 2) 7019 [.ref o] (h, t) (zQv (zDc t.1) h0 t R) := by
  refine zC_of mt_7019 nn_7019 (Nat.le_of_ble_eq_true rfl) ?_
  refine zW_lv (lv' := [(0, .ref o)]) rfl ?_
  unfold f_X7_chill at hf
  refine z_aload_n dX7_chill_0 rfl ?_
  refine z_iconst (v := 2) dX7_chill_1 (by decide) ?_
  refine z_bipush (v := 9) dX7_chill_2 (by decide) ?_
  refine z_aload_n dX7_chill_4 rfl ?_
  refine z_iconst (v := 2) dX7_chill_5 (by decide) ?_
  obtain ⟨r2, S1, k3, hf⟩ := zb_some hf
  refine z_callVi dX7_chill_6 tM_7_48 mt_7013 (Nat.le_of_ble_eq_true rfl) rfl rfl (z_recv hE ho_o.1 rfl) rfl (by have q0 : o < t.1 := Nat.lt_of_lt_of_le ho_o.2.2 (Nat.le_trans (by decide) hn1); simp [ia_oks, ia_okv, q0]) (Nat.le_of_ble_eq_true rfl) (w_X7_lid hn1 hn2 (d + 0) ho_o hE k3) (fun h hE => ?_)
  refine z_iconst (v := 3) dX7_chill_9 (by decide) ?_
  refine z_iadd dX7_chill_10 ?_
  refine z_mmin dX7_chill_11 tM_7_106 (Nat.le_of_ble_eq_true rfl) ?_
  obtain ⟨r5, S4, k6, hf⟩ := zb_some hf
  refine z_callVv dX7_chill_14 tM_7_58 mt_7012 (Nat.le_of_ble_eq_true rfl) rfl rfl (z_recv hE ho_o.1 rfl) rfl (by have q0 : o < t.1 := Nat.lt_of_lt_of_le ho_o.2.2 (Nat.le_trans (by decide) hn1); simp [ia_oks, ia_okv, q0]) (Nat.le_of_ble_eq_true rfl) (w_X7_setLid hn1 hn2 (d + 0) ho_o hE k6) (fun h hE => ?_)
  refine z_aload_n dX7_chill_17 rfl ?_
  refine z_getC dX7_chill_18 tF_7_9 hE ho_o.1 rfl rfl ?_
  refine z_bipush (v := 65) dX7_chill_21 (by decide) ?_
  refine z_dup2 dX7_chill_23 ⟨rfl, rfl⟩ ?_
  refine z_ialoadL (i := 65) dX7_chill_24 hE ho_o.2.1 (by decide) (by decide) ?_
  refine z_iconst (v := 1) dX7_chill_25 (by decide) ?_
  refine z_iadd dX7_chill_26 ?_
  obtain ⟨S7, eS7, hf⟩ := zl_some hf
  refine z_iastoreL (i := 65) dX7_chill_27 hE ho_o.2.1 (by decide) (by decide) (fun h hE => ?_)
  rw [← eS7] at hE
  have e_ := Option.some.inj hf
  subst e_
  exact z_vreturn dX7_chill_28 rfl ⟨h, rfl, rfl, hE⟩
def f_X7_workOnLid (o : Nat) (v1 : Int32) (S : zS) : Option (Unit × zS) :=
zl (fun (S3 : zS) =>
zl (sV S3 (o + 1) 65 ((S3.1 (o + 1) 65) + 1)) fun S4 =>
some ((), S4)) fun J2 =>
if ¬ v1 = 0 then
if ¬ v1 = 1 then
zb (f_X7_setLid o 0 0 S) fun _ S6 =>
zb (f_X7_setLid o 4 1 S6) fun _ S9 =>
J2 S9
else
zb (f_X7_lessenLid o 0 4 S) fun _ S12 =>
J2 S12
else
zb (f_X7_lessenLid o 1 3 S) fun _ S15 =>
J2 S15
theorem w_X7_workOnLid {L : Nat} {xs : Nat → Int32} {fm : Bool} {h0 : Nat → va_E} {t : Nat × Nat × Nat} (hn1 : 64 ≤ t.1) (hn2 : t.1 ≤ 1000000) (d : Nat) {o : Nat} (ho_o : zSc t.1 o) {h : Nat → va_E} {S : zS} (hE : zE (zDc t.1) h0 S (h, t)) {v1 : Int32} {R : Unit × zS} (hf : f_X7_workOnLid o v1 S = some R) : zC (ia_P0 L xs fm) (d + 3) 7022 [.ref o, .int v1] (h, t) (zQv (zDc t.1) h0 t R) := by
  refine zC_of mt_7022 nn_7022 (Nat.le_of_ble_eq_true rfl) ?_
  refine zW_lv (lv' := [(0, .ref o), (1, .int v1)]) rfl ?_
  unfold f_X7_workOnLid at hf
  refine z_iload_n dX7_workOnLid_0 rfl ?_
  obtain ⟨J2, eJ2, hf⟩ := zl_some hf
  have hJ2 : ∀ (S3 : zS) (h : Nat → va_E), zE (zDc t.1) h0 S3 (h, t) → J2 S3 = some R → zW (ia_P0 L xs fm) ia_nx (d + 2) 7 false cX7_workOnLid 2 (none) 39 [(0, .ref o), (1, .int v1)] [] (h, t) (zQv (zDc t.1) h0 t R) := by
    intro S3 h hE hf
    rw [eJ2] at hf
    refine z_aload_n dX7_workOnLid_39 rfl ?_
    refine z_getC dX7_workOnLid_40 tF_7_9 hE ho_o.1 rfl rfl ?_
    refine z_bipush (v := 65) dX7_workOnLid_43 (by decide) ?_
    refine z_dup2 dX7_workOnLid_45 ⟨rfl, rfl⟩ ?_
    refine z_ialoadL (i := 65) dX7_workOnLid_46 hE ho_o.2.1 (by decide) (by decide) ?_
    refine z_iconst (v := 1) dX7_workOnLid_47 (by decide) ?_
    refine z_iadd dX7_workOnLid_48 ?_
    obtain ⟨S4, eS4, hf⟩ := zl_some hf
    refine z_iastoreL (i := 65) dX7_workOnLid_49 hE ho_o.2.1 (by decide) (by decide) (fun h hE => ?_)
    rw [← eS4] at hE
    have e_ := Option.some.inj hf
    subst e_
    exact z_vreturn dX7_workOnLid_50 rfl ⟨h, rfl, rfl, hE⟩
  by_cases c1 : ¬ v1 = 0
  · have hf := zif_t hf c1
    refine z_if_ne_t (tgt := 13) dX7_workOnLid_1 (by decide) c1 ?_
    refine z_iload_n dX7_workOnLid_13 rfl ?_
    refine z_iconst (v := 1) dX7_workOnLid_14 (by decide) ?_
    by_cases c5 : ¬ v1 = 1
    · have hf := zif_t hf c5
      refine z_icmp_ne_t (tgt := 27) dX7_workOnLid_15 (by decide) c5 ?_
      refine z_aload_n dX7_workOnLid_27 rfl ?_
      refine z_iconst (v := 0) dX7_workOnLid_28 (by decide) ?_
      refine z_iconst (v := 0) dX7_workOnLid_29 (by decide) ?_
      obtain ⟨r7, S6, k8, hf⟩ := zb_some hf
      refine z_callVv dX7_workOnLid_30 tM_7_58 mt_7012 (Nat.le_of_ble_eq_true rfl) rfl rfl (z_recv hE ho_o.1 rfl) rfl (by have q0 : o < t.1 := Nat.lt_of_lt_of_le ho_o.2.2 (Nat.le_trans (by decide) hn1); simp [ia_oks, ia_okv, q0]) (Nat.le_of_ble_eq_true rfl) (w_X7_setLid hn1 hn2 (d + 1) ho_o hE k8) (fun h hE => ?_)
      refine z_aload_n dX7_workOnLid_33 rfl ?_
      refine z_iconst (v := 4) dX7_workOnLid_34 (by decide) ?_
      refine z_iconst (v := 1) dX7_workOnLid_35 (by decide) ?_
      obtain ⟨r10, S9, k11, hf⟩ := zb_some hf
      refine z_callVv dX7_workOnLid_36 tM_7_58 mt_7012 (Nat.le_of_ble_eq_true rfl) rfl rfl (z_recv hE ho_o.1 rfl) rfl (by have q0 : o < t.1 := Nat.lt_of_lt_of_le ho_o.2.2 (Nat.le_trans (by decide) hn1); simp [ia_oks, ia_okv, q0]) (Nat.le_of_ble_eq_true rfl) (w_X7_setLid hn1 hn2 (d + 1) ho_o hE k11) (fun h hE => ?_)
      exact zW.sub (hJ2 S9 _ hE hf) [0, 1] rfl rfl rfl rfl
    · have hf := zif_f hf c5
      refine z_icmp_ne_f (tgt := 27) dX7_workOnLid_15 (by decide) c5 ?_
      refine z_aload_n dX7_workOnLid_18 rfl ?_
      refine z_iconst (v := 0) dX7_workOnLid_19 (by decide) ?_
      refine z_iconst (v := 4) dX7_workOnLid_20 (by decide) ?_
      obtain ⟨r13, S12, k14, hf⟩ := zb_some hf
      refine z_callVv dX7_workOnLid_21 tM_7_99 mt_7014 (Nat.le_of_ble_eq_true rfl) rfl rfl (z_recv hE ho_o.1 rfl) rfl (by have q0 : o < t.1 := Nat.lt_of_lt_of_le ho_o.2.2 (Nat.le_trans (by decide) hn1); simp [ia_oks, ia_okv, q0]) (Nat.le_of_ble_eq_true rfl) (w_X7_lessenLid hn1 hn2 (d + 0) ho_o hE k14) (fun h hE => ?_)
      refine z_goto (tgt := 39) dX7_workOnLid_24 (by decide) ?_
      exact zW.sub (hJ2 S12 _ hE hf) [0, 1] rfl rfl rfl rfl
  · have hf := zif_f hf c1
    refine z_if_ne_f (tgt := 13) dX7_workOnLid_1 (by decide) c1 ?_
    refine z_aload_n dX7_workOnLid_4 rfl ?_
    refine z_iconst (v := 1) dX7_workOnLid_5 (by decide) ?_
    refine z_iconst (v := 3) dX7_workOnLid_6 (by decide) ?_
    obtain ⟨r16, S15, k17, hf⟩ := zb_some hf
    refine z_callVv dX7_workOnLid_7 tM_7_99 mt_7014 (Nat.le_of_ble_eq_true rfl) rfl rfl (z_recv hE ho_o.1 rfl) rfl (by have q0 : o < t.1 := Nat.lt_of_lt_of_le ho_o.2.2 (Nat.le_trans (by decide) hn1); simp [ia_oks, ia_okv, q0]) (Nat.le_of_ble_eq_true rfl) (w_X7_lessenLid hn1 hn2 (d + 0) ho_o hE k17) (fun h hE => ?_)
    refine z_goto (tgt := 39) dX7_workOnLid_10 (by decide) ?_
    exact zW.sub (hJ2 S15 _ hE hf) [0, 1] rfl rfl rfl rfl
def f_X7_rest_L2 (o : Nat) (ex : Int32 → zS → Option (Unit × zS)) (i1 : Int32) : Nat → Int32 → zS → Option (Unit × zS)
  | 0, _, _ => none
  | k + 1, x2, S =>
    if (S.1 12 0) ≤ x2 then
    ex x2 S
    else
    zl ((x2 * 7) + 3) fun (y2 : Int32) =>
    if ia_in y2 66 = true then
    if ia_in y2 66 = true then
    zl (sV S (o + 1) (y2.toNatClampNeg) (if 0 < ((S.1 (o + 1) y2.toNatClampNeg) - (2 * i1)) then ((S.1 (o + 1) y2.toNatClampNeg) - (2 * i1)) else 0)) fun S5 =>
    zl (x2 + 1) fun (y6 : Int32) =>
    f_X7_rest_L2 o ex i1 k y6 S5
    else none
    else none
def f_X7_rest_L50 (o : Nat) (ex : Int32 → zS → Option (Unit × zS)) (i1 : Int32) : Nat → Int32 → zS → Option (Unit × zS)
  | 0, _, _ => none
  | k + 1, x2, S =>
    if (S.1 12 1) ≤ x2 then
    ex x2 S
    else
    zb (f_X10_item 1 x2 0 S) fun r11 S10 =>
    zb (f_X7_handCell o x2 0 S10) fun r14 S13 =>
    zb (f_X7_setHand o x2 0 (if (r14 + i1) < r11 then (r14 + i1) else r11) S13) fun _ S16 =>
    zb (f_X7_handCell o x2 1 S16) fun r20 S19 =>
    zb (f_X7_setHand o x2 1 (if 0 < (r20 - (i1 / 10)) then (r20 - (i1 / 10)) else 0) S19) fun _ S22 =>
    zl (x2 + 1) fun (y25 : Int32) =>
    f_X7_rest_L50 o ex i1 k y25 S22
def f_X7_rest (o : Nat) (v1 : Int32) (S : zS) : Option (Unit × zS) :=
f_X7_rest_L2 o (fun (q8 : Int32) (S7 : zS) =>
f_X7_rest_L50 o (fun (q27 : Int32) (S26 : zS) =>
zl (sV S26 (o + 1) 65 ((S26.1 (o + 1) 65) + v1)) fun S28 =>
some ((), S28)) v1 zN 0 S7) v1 zN 0 S
theorem w_X7_rest_L2 {L : Nat} {xs : Nat → Int32} {fm : Bool} {h0 : Nat → va_E} {t : Nat × Nat × Nat} (hn1 : 64 ≤ t.1) (hn2 : t.1 ≤ 1000000) (d : Nat) {o : Nat} (ho_o : zSc t.1 o) {ex : Int32 → zS → Option (Unit × zS)} {i1 : Int32} {R : Unit × zS} (hex : ∀ (x2 : Int32) (S : zS) (h : Nat → va_E), zE (zDc t.1) h0 S (h, t) → ex x2 S = some R → zW (ia_P0 L xs fm) ia_nx (d + 2) 7 false cX7_rest 4 (none) 48 [(0, .ref o), (1, .int i1), (2, .int x2)] [] (h, t) (zQv (zDc t.1) h0 t R)) : ∀ (k : Nat) (x2 : Int32) (S : zS) (h : Nat → va_E), zE (zDc t.1) h0 S (h, t) → f_X7_rest_L2 o ex i1 k x2 S = some R → zW (ia_P0 L xs fm) ia_nx (d + 2) 7 false cX7_rest 4 (none) 2 [(0, .ref o), (1, .int i1), (2, .int x2)] [] (h, t) (zQv (zDc t.1) h0 t R) := by
  intro k
  induction k with
  | zero => intro x2 S h hE hf; cases hf
  | succ k ih =>
    intro x2 S h hE hf
    unfold f_X7_rest_L2 at hf
    refine z_iload_n dX7_rest_2 rfl ?_
    refine z_aload_n dX7_rest_3 rfl ?_
    refine z_getC dX7_rest_4 tF_7_15 hE ho_o.1 rfl rfl ?_
    refine z_getC dX7_rest_7 tF_7_29 hE dc_11 rfl rfl ?_
    refine z_iconst (v := 0) dX7_rest_10 (by decide) ?_
    refine z_ialoadL (i := 0) dX7_rest_11 hE dc_12 (by decide) (by decide) ?_
    by_cases c1 : (S.1 12 0) ≤ x2
    · have hf := zif_t hf c1
      refine z_icmp_ge_t (tgt := 48) dX7_rest_12 (by decide) c1 ?_
      exact zW.sub (hex x2 S _ hE hf) [0, 1, 2] rfl rfl rfl rfl
    · have hf := zif_f hf c1
      refine z_icmp_ge_f (tgt := 48) dX7_rest_12 (by decide) c1 ?_
      refine z_iload_n dX7_rest_15 rfl ?_
      refine z_bipush (v := 7) dX7_rest_16 (by decide) ?_
      refine z_imul dX7_rest_18 ?_
      refine z_iconst (v := 3) dX7_rest_19 (by decide) ?_
      refine z_iadd dX7_rest_20 ?_
      obtain ⟨y2, ey2, hf⟩ := zl_some hf
      refine z_topi ey2 ?_
      refine z_istore_n (lv' := [(3, .int y2), (0, .ref o), (1, .int i1), (2, .int x2)]) dX7_rest_21 (by decide) rfl ?_
      refine z_aload_n dX7_rest_22 rfl ?_
      refine z_getC dX7_rest_23 tF_7_9 hE ho_o.1 rfl rfl ?_
      refine z_iload_n dX7_rest_26 rfl ?_
      refine z_iconst (v := 0) dX7_rest_27 (by decide) ?_
      refine z_aload_n dX7_rest_28 rfl ?_
      refine z_getC dX7_rest_29 tF_7_9 hE ho_o.1 rfl rfl ?_
      refine z_iload_n dX7_rest_32 rfl ?_
      obtain ⟨b3, hf⟩ := zchk hf
      refine z_ialoadL dX7_rest_33 hE ho_o.2.1 b3 rfl ?_
      refine z_iconst (v := 2) dX7_rest_34 (by decide) ?_
      refine z_iload_n dX7_rest_35 rfl ?_
      refine z_imul dX7_rest_36 ?_
      refine z_isub dX7_rest_37 ?_
      refine z_mmax dX7_rest_38 tM_7_52 (Nat.le_of_ble_eq_true rfl) ?_
      obtain ⟨b4, hf⟩ := zchk hf
      obtain ⟨S5, eS5, hf⟩ := zl_some hf
      refine z_iastoreL (i := y2.toNatClampNeg) dX7_rest_41 hE ho_o.2.1 b4 rfl (fun h hE => ?_)
      rw [← eS5] at hE
      obtain ⟨y6, ey6, hf⟩ := zl_some hf
      refine z_iincY (v := 1) (y := y6) (lv' := [(2, .int y6), (3, .int y2), (0, .ref o), (1, .int i1)]) dX7_rest_42 rfl (by decide) (by decide) ey6 rfl ?_
      refine z_goto (tgt := 2) dX7_rest_45 (by decide) ?_
      exact zW.sub (ih y6 S5 _ hE hf) [2, 3, 0] rfl rfl rfl rfl
theorem w_X7_rest_L50 {L : Nat} {xs : Nat → Int32} {fm : Bool} {h0 : Nat → va_E} {t : Nat × Nat × Nat} (hn1 : 64 ≤ t.1) (hn2 : t.1 ≤ 1000000) (d : Nat) {o : Nat} (ho_o : zSc t.1 o) {ex : Int32 → zS → Option (Unit × zS)} {i1 : Int32} {R : Unit × zS} (hex : ∀ (x2 : Int32) (S : zS) (h : Nat → va_E), zE (zDc t.1) h0 S (h, t) → ex x2 S = some R → zW (ia_P0 L xs fm) ia_nx (d + 2) 7 false cX7_rest 4 (none) 119 [(0, .ref o), (1, .int i1), (2, .int x2)] [] (h, t) (zQv (zDc t.1) h0 t R)) : ∀ (k : Nat) (x2 : Int32) (S : zS) (h : Nat → va_E), zE (zDc t.1) h0 S (h, t) → f_X7_rest_L50 o ex i1 k x2 S = some R → zW (ia_P0 L xs fm) ia_nx (d + 2) 7 false cX7_rest 4 (none) 50 [(0, .ref o), (1, .int i1), (2, .int x2)] [] (h, t) (zQv (zDc t.1) h0 t R) := by
  intro k
  induction k with
  | zero => intro x2 S h hE hf; cases hf
  | succ k ih =>
    intro x2 S h hE hf
    unfold f_X7_rest_L50 at hf
    refine z_iload_n dX7_rest_50 rfl ?_
    refine z_aload_n dX7_rest_51 rfl ?_
    refine z_getC dX7_rest_52 tF_7_15 hE ho_o.1 rfl rfl ?_
    refine z_getC dX7_rest_55 tF_7_29 hE dc_11 rfl rfl ?_
    refine z_iconst (v := 1) dX7_rest_58 (by decide) ?_
    refine z_ialoadL (i := 1) dX7_rest_59 hE dc_12 (by decide) (by decide) ?_
    by_cases c9 : (S.1 12 1) ≤ x2
    · have hf := zif_t hf c9
      refine z_icmp_ge_t (tgt := 119) dX7_rest_60 (by decide) c9 ?_
      exact zW.sub (hex x2 S _ hE hf) [0, 1, 2] rfl rfl rfl rfl
    · have hf := zif_f hf c9
      refine z_icmp_ge_f (tgt := 119) dX7_rest_60 (by decide) c9 ?_
      refine z_aload_n dX7_rest_63 rfl ?_
      refine z_getC dX7_rest_64 tF_7_15 hE ho_o.1 rfl rfl ?_
      refine z_iconst (v := 1) dX7_rest_67 (by decide) ?_
      refine z_iload_n dX7_rest_68 rfl ?_
      refine z_iconst (v := 0) dX7_rest_69 (by decide) ?_
      obtain ⟨r11, S10, k12, hf⟩ := zb_some hf
      refine z_callVi dX7_rest_70 tM_7_34 mt_10004 (Nat.le_of_ble_eq_true rfl) rfl rfl (z_recv hE dc_11 rfl) rfl (by have q0 : o < t.1 := Nat.lt_of_lt_of_le ho_o.2.2 (Nat.le_trans (by decide) hn1); simp [ia_oks, ia_okv, q0]) (Nat.le_of_ble_eq_true rfl) (w_X10_item hn1 hn2 (d + 0) hE k12) (fun h hE => ?_)
      refine z_istore_n (lv' := [(3, .int r11), (0, .ref o), (1, .int i1), (2, .int x2)]) dX7_rest_73 (by decide) rfl ?_
      refine z_aload_n dX7_rest_74 rfl ?_
      refine z_iload_n dX7_rest_75 rfl ?_
      refine z_iconst (v := 0) dX7_rest_76 (by decide) ?_
      refine z_iload_n dX7_rest_77 rfl ?_
      refine z_aload_n dX7_rest_78 rfl ?_
      refine z_iload_n dX7_rest_79 rfl ?_
      refine z_iconst (v := 0) dX7_rest_80 (by decide) ?_
      obtain ⟨r14, S13, k15, hf⟩ := zb_some hf
      refine z_callVi dX7_rest_81 tM_7_76 mt_7003 (Nat.le_of_ble_eq_true rfl) rfl rfl (z_recv hE ho_o.1 rfl) rfl (by have q0 : o < t.1 := Nat.lt_of_lt_of_le ho_o.2.2 (Nat.le_trans (by decide) hn1); simp [ia_oks, ia_okv, q0]) (Nat.le_of_ble_eq_true rfl) (w_X7_handCell hn1 hn2 (d + 1) ho_o hE k15) (fun h hE => ?_)
      refine z_iload_n dX7_rest_84 rfl ?_
      refine z_iadd dX7_rest_85 ?_
      refine z_mmin dX7_rest_86 tM_7_106 (Nat.le_of_ble_eq_true rfl) ?_
      obtain ⟨r17, S16, k18, hf⟩ := zb_some hf
      refine z_callVv dX7_rest_89 tM_7_38 mt_7002 (Nat.le_of_ble_eq_true rfl) rfl rfl (z_recv hE ho_o.1 rfl) rfl (by have q0 : o < t.1 := Nat.lt_of_lt_of_le ho_o.2.2 (Nat.le_trans (by decide) hn1); simp [ia_oks, ia_okv, q0]) (Nat.le_of_ble_eq_true rfl) (w_X7_setHand hn1 hn2 (d + 1) ho_o hE k18) (fun h hE => ?_)
      refine z_aload_n dX7_rest_92 rfl ?_
      refine z_iload_n dX7_rest_93 rfl ?_
      refine z_iconst (v := 1) dX7_rest_94 (by decide) ?_
      refine z_iconst (v := 0) dX7_rest_95 (by decide) ?_
      refine z_aload_n dX7_rest_96 rfl ?_
      refine z_iload_n dX7_rest_97 rfl ?_
      refine z_iconst (v := 1) dX7_rest_98 (by decide) ?_
      obtain ⟨r20, S19, k21, hf⟩ := zb_some hf
      refine z_callVi dX7_rest_99 tM_7_76 mt_7003 (Nat.le_of_ble_eq_true rfl) rfl rfl (z_recv hE ho_o.1 rfl) rfl (by have q0 : o < t.1 := Nat.lt_of_lt_of_le ho_o.2.2 (Nat.le_trans (by decide) hn1); simp [ia_oks, ia_okv, q0]) (Nat.le_of_ble_eq_true rfl) (w_X7_handCell hn1 hn2 (d + 1) ho_o hE k21) (fun h hE => ?_)
      refine z_iload_n dX7_rest_102 rfl ?_
      refine z_bipush (v := 10) dX7_rest_103 (by decide) ?_
      refine z_idiv dX7_rest_105 (by decide) ?_
      refine z_isub dX7_rest_106 ?_
      refine z_mmax dX7_rest_107 tM_7_52 (Nat.le_of_ble_eq_true rfl) ?_
      obtain ⟨r23, S22, k24, hf⟩ := zb_some hf
      refine z_callVv dX7_rest_110 tM_7_38 mt_7002 (Nat.le_of_ble_eq_true rfl) rfl rfl (z_recv hE ho_o.1 rfl) rfl (by have q0 : o < t.1 := Nat.lt_of_lt_of_le ho_o.2.2 (Nat.le_trans (by decide) hn1); simp [ia_oks, ia_okv, q0]) (Nat.le_of_ble_eq_true rfl) (w_X7_setHand hn1 hn2 (d + 1) ho_o hE k24) (fun h hE => ?_)
      obtain ⟨y25, ey25, hf⟩ := zl_some hf
      refine z_iincY (v := 1) (y := y25) (lv' := [(2, .int y25), (3, .int r11), (0, .ref o), (1, .int i1)]) dX7_rest_113 rfl (by decide) (by decide) ey25 rfl ?_
      refine z_goto (tgt := 50) dX7_rest_116 (by decide) ?_
      exact zW.sub (ih y25 S22 _ hE hf) [2, 3, 0] rfl rfl rfl rfl
theorem w_X7_rest {L : Nat} {xs : Nat → Int32} {fm : Bool} {h0 : Nat → va_E} {t : Nat × Nat × Nat} (hn1 : 64 ≤ t.1) (hn2 : t.1 ≤ 1000000) (d : Nat) {o : Nat} (ho_o : zSc t.1 o) {h : Nat → va_E} {S : zS} (hE : zE (zDc t.1) h0 S (h, t)) {v1 : Int32} {R : Unit × zS} (hf : f_X7_rest o v1 S = some R) : zC (ia_P0 L xs fm) (d + 3) 7021 [.ref o, .int v1] (h, t) (zQv (zDc t.1) h0 t R) := by
  refine zC_of mt_7021 nn_7021 (Nat.le_of_ble_eq_true rfl) ?_
  refine zW_lv (lv' := [(0, .ref o), (1, .int v1)]) rfl ?_
  unfold f_X7_rest at hf
  refine z_iconst (v := 0) dX7_rest_0 (by decide) ?_
  refine z_istore_n (lv' := [(2, .int 0), (0, .ref o), (1, .int v1)]) dX7_rest_1 (by decide) rfl ?_
  refine zW.sub (w_X7_rest_L2 hn1 hn2 d ho_o (fun q8 S7 h hE hf => ?_) zN 0 S h hE hf) [1, 2, 0] rfl rfl rfl rfl
  try dsimp only at hf
  refine z_iconst (v := 0) dX7_rest_48 (by decide) ?_
  refine z_istore_n (lv' := [(2, .int 0), (0, .ref o), (1, .int v1)]) dX7_rest_49 (by decide) rfl ?_
  refine zW.sub (w_X7_rest_L50 hn1 hn2 d ho_o (fun q27 S26 h hE hf => ?_) zN 0 S7 h hE hf) [1, 2, 0] rfl rfl rfl rfl
  try dsimp only at hf
  refine z_aload_n dX7_rest_119 rfl ?_
  refine z_getC dX7_rest_120 tF_7_9 hE ho_o.1 rfl rfl ?_
  refine z_bipush (v := 65) dX7_rest_123 (by decide) ?_
  refine z_dup2 dX7_rest_125 ⟨rfl, rfl⟩ ?_
  refine z_ialoadL (i := 65) dX7_rest_126 hE ho_o.2.1 (by decide) (by decide) ?_
  refine z_iload_n dX7_rest_127 rfl ?_
  refine z_iadd dX7_rest_128 ?_
  obtain ⟨S28, eS28, hf⟩ := zl_some hf
  refine z_iastoreL (i := 65) dX7_rest_129 hE ho_o.2.1 (by decide) (by decide) (fun h hE => ?_)
  rw [← eS28] at hE
  have e_ := Option.some.inj hf
  subst e_
  exact z_vreturn dX7_rest_130 rfl ⟨h, rfl, rfl, hE⟩
def f_X7_act (o : Nat) (v1 : Int32) (S : zS) : Option (Unit × zS) :=
if v1 < 100 then
if v1 < 10 then
if ¬ v1 = 3 then
if ¬ v1 = 4 then
zb (f_X7_workOnLid o v1 S) fun _ S5 =>
some ((), S5)
else
zb (f_X7_rest o 10 S) fun _ S8 =>
some ((), S8)
else
zb (f_X7_warm o 10 S) fun _ S11 =>
some ((), S11)
else
zb (f_X7_setHand o (v1 - 10) 1 0 S) fun _ S14 =>
zl (sV S14 (o + 1) 65 ((S14.1 (o + 1) 65) + 1)) fun S17 =>
some ((), S17)
else
zl ((v1 - 100) / 10) fun (y18 : Int32) =>
zl ((v1 - 100) - (v1 - 100) / 10 * 10) fun (y19 : Int32) =>
zl (fun (q22 : Int32) =>
zb (f_X7_onTable o S) fun r24 S23 =>
zb (f_X7_gripOn o y18 q22 r24 S23) fun r27 S26 =>
zb (f_X7_tryLid o y18 r27 S26) fun _ S29 =>
some ((), S29)) fun J21 =>
if ¬ y19 = 9 then
J21 y19
else
J21 (-1)
theorem w_X7_act {L : Nat} {xs : Nat → Int32} {fm : Bool} {h0 : Nat → va_E} {t : Nat × Nat × Nat} (hn1 : 64 ≤ t.1) (hn2 : t.1 ≤ 1000000) (d : Nat) {o : Nat} (ho_o : zSc t.1 o) {h : Nat → va_E} {S : zS} (hE : zE (zDc t.1) h0 S (h, t)) {v1 : Int32} {R : Unit × zS} (hf : f_X7_act o v1 S = some R) : zC (ia_P0 L xs fm) (d + 5) 7020 [.ref o, .int v1] (h, t) (zQv (zDc t.1) h0 t R) := by
  refine zC_of mt_7020 nn_7020 (Nat.le_of_ble_eq_true rfl) ?_
  refine zW_lv (lv' := [(0, .ref o), (1, .int v1)]) rfl ?_
  unfold f_X7_act at hf
  refine z_iload_n dX7_act_0 rfl ?_
  refine z_bipush (v := 100) dX7_act_1 (by decide) ?_
  by_cases c1 : v1 < 100
  · have hf := zif_t hf c1
    refine z_icmp_lt_t (tgt := 50) dX7_act_3 (by decide) c1 ?_
    refine z_iload_n dX7_act_50 rfl ?_
    refine z_bipush (v := 10) dX7_act_51 (by decide) ?_
    by_cases c2 : v1 < 10
    · have hf := zif_t hf c2
      refine z_icmp_lt_t (tgt := 80) dX7_act_53 (by decide) c2 ?_
      refine z_iload_n dX7_act_80 rfl ?_
      refine z_iconst (v := 3) dX7_act_81 (by decide) ?_
      by_cases c3 : ¬ v1 = 3
      · have hf := zif_t hf c3
        refine z_icmp_ne_t (tgt := 94) dX7_act_82 (by decide) c3 ?_
        refine z_iload_n dX7_act_94 rfl ?_
        refine z_iconst (v := 4) dX7_act_95 (by decide) ?_
        by_cases c4 : ¬ v1 = 4
        · have hf := zif_t hf c4
          refine z_icmp_ne_t (tgt := 108) dX7_act_96 (by decide) c4 ?_
          refine z_aload_n dX7_act_108 rfl ?_
          refine z_iload_n dX7_act_109 rfl ?_
          obtain ⟨r6, S5, k7, hf⟩ := zb_some hf
          refine z_callVv dX7_act_110 tM_7_118 mt_7022 (Nat.le_of_ble_eq_true rfl) rfl rfl (z_recv hE ho_o.1 rfl) rfl (by have q0 : o < t.1 := Nat.lt_of_lt_of_le ho_o.2.2 (Nat.le_trans (by decide) hn1); simp [ia_oks, ia_okv, q0]) (Nat.le_of_ble_eq_true rfl) (w_X7_workOnLid hn1 hn2 (d + 1) ho_o hE k7) (fun h hE => ?_)
          have e_ := Option.some.inj hf
          subst e_
          exact z_vreturn dX7_act_113 rfl ⟨h, rfl, rfl, hE⟩
        · have hf := zif_f hf c4
          refine z_icmp_ne_f (tgt := 108) dX7_act_96 (by decide) c4 ?_
          refine z_aload_n dX7_act_99 rfl ?_
          refine z_bipush (v := 10) dX7_act_100 (by decide) ?_
          obtain ⟨r9, S8, k10, hf⟩ := zb_some hf
          refine z_callVv dX7_act_102 tM_7_115 mt_7021 (Nat.le_of_ble_eq_true rfl) rfl rfl (z_recv hE ho_o.1 rfl) rfl (by have q0 : o < t.1 := Nat.lt_of_lt_of_le ho_o.2.2 (Nat.le_trans (by decide) hn1); simp [ia_oks, ia_okv, q0]) (Nat.le_of_ble_eq_true rfl) (w_X7_rest hn1 hn2 (d + 1) ho_o hE k10) (fun h hE => ?_)
          refine z_goto (tgt := 113) dX7_act_105 (by decide) ?_
          have e_ := Option.some.inj hf
          subst e_
          exact z_vreturn dX7_act_113 rfl ⟨h, rfl, rfl, hE⟩
      · have hf := zif_f hf c3
        refine z_icmp_ne_f (tgt := 94) dX7_act_82 (by decide) c3 ?_
        refine z_aload_n dX7_act_85 rfl ?_
        refine z_bipush (v := 10) dX7_act_86 (by decide) ?_
        obtain ⟨r12, S11, k13, hf⟩ := zb_some hf
        refine z_callVv dX7_act_88 tM_7_112 mt_7018 (Nat.le_of_ble_eq_true rfl) rfl rfl (z_recv hE ho_o.1 rfl) rfl (by have q0 : o < t.1 := Nat.lt_of_lt_of_le ho_o.2.2 (Nat.le_trans (by decide) hn1); simp [ia_oks, ia_okv, q0]) (Nat.le_of_ble_eq_true rfl) (w_X7_warm hn1 hn2 (d + 1) ho_o hE k13) (fun h hE => ?_)
        refine z_goto (tgt := 113) dX7_act_91 (by decide) ?_
        have e_ := Option.some.inj hf
        subst e_
        exact z_vreturn dX7_act_113 rfl ⟨h, rfl, rfl, hE⟩
    · have hf := zif_f hf c2
      refine z_icmp_lt_f (tgt := 80) dX7_act_53 (by decide) c2 ?_
      refine z_aload_n dX7_act_56 rfl ?_
      refine z_iload_n dX7_act_57 rfl ?_
      refine z_bipush (v := 10) dX7_act_58 (by decide) ?_
      refine z_isub dX7_act_60 ?_
      refine z_iconst (v := 1) dX7_act_61 (by decide) ?_
      refine z_iconst (v := 0) dX7_act_62 (by decide) ?_
      obtain ⟨r15, S14, k16, hf⟩ := zb_some hf
      refine z_callVv dX7_act_63 tM_7_38 mt_7002 (Nat.le_of_ble_eq_true rfl) rfl rfl (z_recv hE ho_o.1 rfl) rfl (by have q0 : o < t.1 := Nat.lt_of_lt_of_le ho_o.2.2 (Nat.le_trans (by decide) hn1); simp [ia_oks, ia_okv, q0]) (Nat.le_of_ble_eq_true rfl) (w_X7_setHand hn1 hn2 (d + 3) ho_o hE k16) (fun h hE => ?_)
      refine z_aload_n dX7_act_66 rfl ?_
      refine z_getC dX7_act_67 tF_7_9 hE ho_o.1 rfl rfl ?_
      refine z_bipush (v := 65) dX7_act_70 (by decide) ?_
      refine z_dup2 dX7_act_72 ⟨rfl, rfl⟩ ?_
      refine z_ialoadL (i := 65) dX7_act_73 hE ho_o.2.1 (by decide) (by decide) ?_
      refine z_iconst (v := 1) dX7_act_74 (by decide) ?_
      refine z_iadd dX7_act_75 ?_
      obtain ⟨S17, eS17, hf⟩ := zl_some hf
      refine z_iastoreL (i := 65) dX7_act_76 hE ho_o.2.1 (by decide) (by decide) (fun h hE => ?_)
      rw [← eS17] at hE
      refine z_goto (tgt := 113) dX7_act_77 (by decide) ?_
      have e_ := Option.some.inj hf
      subst e_
      exact z_vreturn dX7_act_113 rfl ⟨h, rfl, rfl, hE⟩
  · have hf := zif_f hf c1
    refine z_icmp_lt_f (tgt := 50) dX7_act_3 (by decide) c1 ?_
    refine z_iload_n dX7_act_6 rfl ?_
    refine z_bipush (v := 100) dX7_act_7 (by decide) ?_
    refine z_isub dX7_act_9 ?_
    refine z_bipush (v := 10) dX7_act_10 (by decide) ?_
    refine z_idiv dX7_act_12 (by decide) ?_
    obtain ⟨y18, ey18, hf⟩ := zl_some hf
    refine z_topi ey18 ?_
    refine z_istore_n (lv' := [(2, .int y18), (0, .ref o), (1, .int v1)]) dX7_act_13 (by decide) rfl ?_
    refine z_iload_n dX7_act_14 rfl ?_
    refine z_bipush (v := 100) dX7_act_15 (by decide) ?_
    refine z_isub dX7_act_17 ?_
    refine z_bipush (v := 10) dX7_act_18 (by decide) ?_
    refine z_irem dX7_act_20 (by decide) ?_
    obtain ⟨y19, ey19, hf⟩ := zl_some hf
    refine z_topi ey19 ?_
    refine z_istore_n (lv' := [(3, .int y19), (2, .int y18), (0, .ref o), (1, .int v1)]) dX7_act_21 (by decide) rfl ?_
    refine z_aload_n dX7_act_22 rfl ?_
    refine z_iload_n dX7_act_23 rfl ?_
    refine z_aload_n dX7_act_24 rfl ?_
    refine z_iload_n dX7_act_25 rfl ?_
    refine z_iload_n dX7_act_26 rfl ?_
    refine z_bipush (v := 9) dX7_act_27 (by decide) ?_
    obtain ⟨J21, eJ21, hf⟩ := zl_some hf
    have hJ21 : ∀ (q22 : Int32) (h : Nat → va_E), zE (zDc t.1) h0 S (h, t) → J21 q22 = some R → zW (ia_P0 L xs fm) ia_nx (d + 4) 7 false cX7_act 4 (none) 37 [(0, .ref o), (1, .int v1), (2, .int y18), (3, .int y19)] [.int q22, .int y18, .ref o, .int y18, .ref o] (h, t) (zQv (zDc t.1) h0 t R) := by
      intro q22 h hE hf
      rw [eJ21] at hf
      refine z_aload_n dX7_act_37 rfl ?_
      obtain ⟨r24, S23, k25, hf⟩ := zb_some hf
      refine z_callVi dX7_act_38 tM_7_90 mt_7010 (Nat.le_of_ble_eq_true rfl) rfl rfl (z_recv hE ho_o.1 rfl) rfl (by have q0 : o < t.1 := Nat.lt_of_lt_of_le ho_o.2.2 (Nat.le_trans (by decide) hn1); simp [ia_oks, ia_okv, q0]) (Nat.le_of_ble_eq_true rfl) (w_X7_onTable hn1 hn2 (d + 3) ho_o hE k25) (fun h hE => ?_)
      obtain ⟨r27, S26, k28, hf⟩ := zb_some hf
      refine z_callVi dX7_act_41 tM_7_93 mt_7006 (Nat.le_of_ble_eq_true rfl) rfl rfl (z_recv hE ho_o.1 rfl) rfl (by have q0 : o < t.1 := Nat.lt_of_lt_of_le ho_o.2.2 (Nat.le_trans (by decide) hn1); simp [ia_oks, ia_okv, q0]) (Nat.le_of_ble_eq_true rfl) (w_X7_gripOn hn1 hn2 (d + 1) ho_o hE k28) (fun h hE => ?_)
      obtain ⟨r30, S29, k31, hf⟩ := zb_some hf
      refine z_callVv dX7_act_44 tM_7_109 mt_7011 (Nat.le_of_ble_eq_true rfl) rfl rfl (z_recv hE ho_o.1 rfl) rfl (by have q0 : o < t.1 := Nat.lt_of_lt_of_le ho_o.2.2 (Nat.le_trans (by decide) hn1); simp [ia_oks, ia_okv, q0]) (Nat.le_of_ble_eq_true rfl) (w_X7_tryLid hn1 hn2 (d + 0) ho_o hE k31) (fun h hE => ?_)
      refine z_goto (tgt := 113) dX7_act_47 (by decide) ?_
      have e_ := Option.some.inj hf
      subst e_
      exact z_vreturn dX7_act_113 rfl ⟨h, rfl, rfl, hE⟩
    by_cases c20 : ¬ y19 = 9
    · have hf := zif_t hf c20
      refine z_icmp_ne_t (tgt := 36) dX7_act_29 (by decide) c20 ?_
      refine z_iload_n dX7_act_36 rfl ?_
      exact zW.sub (hJ21 y19 _ hE hf) [2, 3, 1, 0] rfl rfl rfl rfl
    · have hf := zif_f hf c20
      refine z_icmp_ne_f (tgt := 36) dX7_act_29 (by decide) c20 ?_
      refine z_iconst (v := (-1)) dX7_act_32 (by decide) ?_
      refine z_goto (tgt := 37) dX7_act_33 (by decide) ?_
      exact zW.sub (hJ21 (-1) _ hE hf) [2, 3, 1, 0] rfl rfl rfl rfl
def f_X11_work (v1 : Int32) (S : zS) : Option (Int32 × zS) :=
if v1 < 0 then
some ((-1), S)
else
if 3 < v1 then
some ((-1), S)
else
zb (f_X11_lidIsShut S) fun r4 S3 =>
if ¬ r4 = 0 then
zb (f_X1_keep_17 S3) fun _ S7 =>
zl (fun (S12 : zS) =>
zl (fun (q15 : Int32) =>
zb (f_X7_minute 17 S12) fun r17 S16 =>
zb (f_X1_note q15 r17 S16) fun _ S19 =>
zb (f_X7_onTable 17 S19) fun r23 S22 =>
zb (f_X7_hold 17 r23 S22) fun r26 S25 =>
some (r26, S25)) fun J14 =>
if ¬ v1 = 3 then
J14 v1
else
J14 7) fun J11 =>
if ¬ v1 = 3 then
zb (f_X7_act 17 v1 S7) fun _ S28 =>
J11 S28
else
zb (f_X7_chill 17 S7) fun _ S31 =>
J11 S31
else
some ((-1), S3)
theorem w_X11_work {L : Nat} {xs : Nat → Int32} {fm : Bool} {h0 : Nat → va_E} {t : Nat × Nat × Nat} (hn1 : 64 ≤ t.1) (hn2 : t.1 ≤ 1000000) (d : Nat) {h : Nat → va_E} {S : zS} (hE : zE (zDc t.1) h0 S (h, t)) {v1 : Int32} {R : Int32 × zS} (hf : f_X11_work v1 S = some R) : zC (ia_P0 L xs fm) (d + 6) 11022 [.ref 0, .int v1] (h, t) (zQi (zDc t.1) h0 t R) := by
  refine zC_of mt_11022 nn_11022 (Nat.le_of_ble_eq_true rfl) ?_
  refine zW_lv (lv' := [(0, .ref 0), (1, .int v1)]) rfl ?_
  unfold f_X11_work at hf
  refine z_iload_n dX11_work_0 rfl ?_
  by_cases c1 : v1 < 0
  · have hf := zif_t hf c1
    refine z_if_lt_t (tgt := 16) dX11_work_1 (by decide) c1 ?_
    refine z_iconst (v := (-1)) dX11_work_16 (by decide) ?_
    have e_ := Option.some.inj hf
    subst e_
    exact z_ireturn dX11_work_17 rfl ⟨h, rfl, rfl, hE⟩
  · have hf := zif_f hf c1
    refine z_if_lt_f (tgt := 16) dX11_work_1 (by decide) c1 ?_
    refine z_iload_n dX11_work_4 rfl ?_
    refine z_iconst (v := 3) dX11_work_5 (by decide) ?_
    by_cases c2 : 3 < v1
    · have hf := zif_t hf c2
      refine z_icmp_gt_t (tgt := 16) dX11_work_6 (by decide) c2 ?_
      refine z_iconst (v := (-1)) dX11_work_16 (by decide) ?_
      have e_ := Option.some.inj hf
      subst e_
      exact z_ireturn dX11_work_17 rfl ⟨h, rfl, rfl, hE⟩
    · have hf := zif_f hf c2
      refine z_icmp_gt_f (tgt := 16) dX11_work_6 (by decide) c2 ?_
      refine z_aload_n dX11_work_9 rfl ?_
      obtain ⟨r4, S3, k5, hf⟩ := zb_some hf
      refine z_callVi dX11_work_10 tM_11_223 mt_11019 (Nat.le_of_ble_eq_true rfl) rfl rfl (z_recv hE dc_0 rfl) rfl (ia_oks_le hn1 rfl) (Nat.le_of_ble_eq_true rfl) (w_X11_lidIsShut hn1 hn2 (d + 2) hE k5) (fun h hE => ?_)
      by_cases c6 : ¬ r4 = 0
      · have hf := zif_t hf c6
        refine z_if_ne_t (tgt := 18) dX11_work_13 (by decide) c6 ?_
        refine z_aload_n dX11_work_18 rfl ?_
        refine z_getC dX11_work_19 tF_11_68 hE dc_0 rfl rfl ?_
        refine z_aload_n dX11_work_22 rfl ?_
        refine z_getC dX11_work_23 tF_11_58 hE dc_0 rfl rfl ?_
        obtain ⟨r8, S7, k9, hf⟩ := zb_some hf
        refine z_callVv dX11_work_26 tM_11_230 mt_1002 (Nat.le_of_ble_eq_true rfl) rfl rfl (z_recv hE dc_21 rfl) rfl (ia_oks_le hn1 rfl) (Nat.le_of_ble_eq_true rfl) (w_X1_keep_17 hn1 hn2 (d + 4) hE k9) (fun h hE => ?_)
        refine z_iload_n dX11_work_29 rfl ?_
        refine z_iconst (v := 3) dX11_work_30 (by decide) ?_
        obtain ⟨J11, eJ11, hf⟩ := zl_some hf
        have hJ11 : ∀ (S12 : zS) (h : Nat → va_E), zE (zDc t.1) h0 S12 (h, t) → J11 S12 = some R → zW (ia_P0 L xs fm) ia_nx (d + 5) 11 false cX11_work 2 (some .int) 52 [(0, .ref 0), (1, .int v1)] [] (h, t) (zQi (zDc t.1) h0 t R) := by
          intro S12 h hE hf
          rw [eJ11] at hf
          refine z_aload_n dX11_work_52 rfl ?_
          refine z_getC dX11_work_53 tF_11_68 hE dc_0 rfl rfl ?_
          refine z_iload_n dX11_work_56 rfl ?_
          refine z_iconst (v := 3) dX11_work_57 (by decide) ?_
          obtain ⟨J14, eJ14, hf⟩ := zl_some hf
          have hJ14 : ∀ (q15 : Int32) (h : Nat → va_E), zE (zDc t.1) h0 S12 (h, t) → J14 q15 = some R → zW (ia_P0 L xs fm) ia_nx (d + 5) 11 false cX11_work 2 (some .int) 67 [(0, .ref 0), (1, .int v1)] [.int q15, .ref 21] (h, t) (zQi (zDc t.1) h0 t R) := by
            intro q15 h hE hf
            rw [eJ14] at hf
            refine z_aload_n dX11_work_67 rfl ?_
            refine z_getC dX11_work_68 tF_11_58 hE dc_0 rfl rfl ?_
            obtain ⟨r17, S16, k18, hf⟩ := zb_some hf
            refine z_callVi dX11_work_71 tM_11_244 mt_7017 (Nat.le_of_ble_eq_true rfl) rfl rfl (z_recv hE dc_17 rfl) rfl (ia_oks_le hn1 rfl) (Nat.le_of_ble_eq_true rfl) (w_X7_minute hn1 hn2 (d + 4) sc_17 hE k18) (fun h hE => ?_)
            obtain ⟨r20, S19, k21, hf⟩ := zb_some hf
            refine z_callVv dX11_work_74 tM_11_247 mt_1003 (Nat.le_of_ble_eq_true rfl) rfl rfl (z_recv hE dc_21 rfl) rfl (ia_oks_le hn1 rfl) (Nat.le_of_ble_eq_true rfl) (w_X1_note hn1 hn2 (d + 4) hE k21) (fun h hE => ?_)
            refine z_aload_n dX11_work_77 rfl ?_
            refine z_getC dX11_work_78 tF_11_58 hE dc_0 rfl rfl ?_
            refine z_aload_n dX11_work_81 rfl ?_
            refine z_getC dX11_work_82 tF_11_58 hE dc_0 rfl rfl ?_
            obtain ⟨r23, S22, k24, hf⟩ := zb_some hf
            refine z_callVi dX11_work_85 tM_11_234 mt_7010 (Nat.le_of_ble_eq_true rfl) rfl rfl (z_recv hE dc_17 rfl) rfl (ia_oks_le hn1 rfl) (Nat.le_of_ble_eq_true rfl) (w_X7_onTable hn1 hn2 (d + 4) sc_17 hE k24) (fun h hE => ?_)
            obtain ⟨r26, S25, k27, hf⟩ := zb_some hf
            refine z_callVi dX11_work_88 tM_11_185 mt_7009 (Nat.le_of_ble_eq_true rfl) rfl rfl (z_recv hE dc_17 rfl) rfl (ia_oks_le hn1 rfl) (Nat.le_of_ble_eq_true rfl) (w_X7_hold hn1 hn2 (d + 3) sc_17 hE k27) (fun h hE => ?_)
            have e_ := Option.some.inj hf
            subst e_
            exact z_ireturn dX11_work_91 rfl ⟨h, rfl, rfl, hE⟩
          by_cases c13 : ¬ v1 = 3
          · have hf := zif_t hf c13
            refine z_icmp_ne_t (tgt := 66) dX11_work_58 (by decide) c13 ?_
            refine z_iload_n dX11_work_66 rfl ?_
            exact zW.sub (hJ14 v1 _ hE hf) [0, 1] rfl rfl rfl rfl
          · have hf := zif_f hf c13
            refine z_icmp_ne_f (tgt := 66) dX11_work_58 (by decide) c13 ?_
            refine z_bipush (v := 7) dX11_work_61 (by decide) ?_
            refine z_goto (tgt := 67) dX11_work_63 (by decide) ?_
            exact zW.sub (hJ14 7 _ hE hf) [0, 1] rfl rfl rfl rfl
        by_cases c10 : ¬ v1 = 3
        · have hf := zif_t hf c10
          refine z_icmp_ne_t (tgt := 44) dX11_work_31 (by decide) c10 ?_
          refine z_aload_n dX11_work_44 rfl ?_
          refine z_getC dX11_work_45 tF_11_58 hE dc_0 rfl rfl ?_
          refine z_iload_n dX11_work_48 rfl ?_
          obtain ⟨r29, S28, k30, hf⟩ := zb_some hf
          refine z_callVv dX11_work_49 tM_11_259 mt_7020 (Nat.le_of_ble_eq_true rfl) rfl rfl (z_recv hE dc_17 rfl) rfl (ia_oks_le hn1 rfl) (Nat.le_of_ble_eq_true rfl) (w_X7_act hn1 hn2 (d + 0) sc_17 hE k30) (fun h hE => ?_)
          exact zW.sub (hJ11 S28 _ hE hf) [0, 1] rfl rfl rfl rfl
        · have hf := zif_f hf c10
          refine z_icmp_ne_f (tgt := 44) dX11_work_31 (by decide) c10 ?_
          refine z_aload_n dX11_work_34 rfl ?_
          refine z_getC dX11_work_35 tF_11_58 hE dc_0 rfl rfl ?_
          obtain ⟨r32, S31, k33, hf⟩ := zb_some hf
          refine z_callVv dX11_work_38 tM_11_256 mt_7019 (Nat.le_of_ble_eq_true rfl) rfl rfl (z_recv hE dc_17 rfl) rfl (ia_oks_le hn1 rfl) (Nat.le_of_ble_eq_true rfl) (w_X7_chill hn1 hn2 (d + 3) sc_17 hE k33) (fun h hE => ?_)
          refine z_goto (tgt := 52) dX11_work_41 (by decide) ?_
          exact zW.sub (hJ11 S31 _ hE hf) [0, 1] rfl rfl rfl rfl
      · have hf := zif_f hf c6
        refine z_if_ne_f (tgt := 18) dX11_work_13 (by decide) c6 ?_
        refine z_iconst (v := (-1)) dX11_work_16 (by decide) ?_
        have e_ := Option.some.inj hf
        subst e_
        exact z_ireturn dX11_work_17 rfl ⟨h, rfl, rfl, hE⟩
def f_X11_dry (v1 : Int32) (S : zS) : Option (Int32 × zS) :=
zb (f_X11_isHand v1 S) fun r2 S1 =>
if ¬ r2 = 0 then
zb (f_X1_keep_17 S1) fun _ S5 =>
zb (f_X7_act 17 (10 + v1) S5) fun _ S8 =>
zb (f_X7_minute 17 S8) fun r12 S11 =>
zb (f_X1_note (10 + v1) r12 S11) fun _ S14 =>
some (1, S14)
else
some (0, S1)
theorem w_X11_dry {L : Nat} {xs : Nat → Int32} {fm : Bool} {h0 : Nat → va_E} {t : Nat × Nat × Nat} (hn1 : 64 ≤ t.1) (hn2 : t.1 ≤ 1000000) (d : Nat) {h : Nat → va_E} {S : zS} (hE : zE (zDc t.1) h0 S (h, t)) {v1 : Int32} {R : Int32 × zS} (hf : f_X11_dry v1 S = some R) : zC (ia_P0 L xs fm) (d + 6) 11023 [.ref 0, .int v1] (h, t) (zQi (zDc t.1) h0 t R) := by
  refine zC_of mt_11023 nn_11023 (Nat.le_of_ble_eq_true rfl) ?_
  refine zW_lv (lv' := [(0, .ref 0), (1, .int v1)]) rfl ?_
  unfold f_X11_dry at hf
  refine z_aload_n dX11_dry_0 rfl ?_
  refine z_iload_n dX11_dry_1 rfl ?_
  obtain ⟨r2, S1, k3, hf⟩ := zb_some hf
  refine z_callVi dX11_dry_2 tM_11_196 mt_11009 (Nat.le_of_ble_eq_true rfl) rfl rfl (z_recv hE dc_0 rfl) rfl (ia_oks_le hn1 rfl) (Nat.le_of_ble_eq_true rfl) (w_X11_isHand hn1 hn2 (d + 4) hE k3) (fun h hE => ?_)
  by_cases c4 : ¬ r2 = 0
  · have hf := zif_t hf c4
    refine z_if_ne_t (tgt := 10) dX11_dry_5 (by decide) c4 ?_
    refine z_aload_n dX11_dry_10 rfl ?_
    refine z_getC dX11_dry_11 tF_11_68 hE dc_0 rfl rfl ?_
    refine z_aload_n dX11_dry_14 rfl ?_
    refine z_getC dX11_dry_15 tF_11_58 hE dc_0 rfl rfl ?_
    obtain ⟨r6, S5, k7, hf⟩ := zb_some hf
    refine z_callVv dX11_dry_18 tM_11_230 mt_1002 (Nat.le_of_ble_eq_true rfl) rfl rfl (z_recv hE dc_21 rfl) rfl (ia_oks_le hn1 rfl) (Nat.le_of_ble_eq_true rfl) (w_X1_keep_17 hn1 hn2 (d + 4) hE k7) (fun h hE => ?_)
    refine z_aload_n dX11_dry_21 rfl ?_
    refine z_getC dX11_dry_22 tF_11_58 hE dc_0 rfl rfl ?_
    refine z_bipush (v := 10) dX11_dry_25 (by decide) ?_
    refine z_iload_n dX11_dry_27 rfl ?_
    refine z_iadd dX11_dry_28 ?_
    obtain ⟨r9, S8, k10, hf⟩ := zb_some hf
    refine z_callVv dX11_dry_29 tM_11_259 mt_7020 (Nat.le_of_ble_eq_true rfl) rfl rfl (z_recv hE dc_17 rfl) rfl (ia_oks_le hn1 rfl) (Nat.le_of_ble_eq_true rfl) (w_X7_act hn1 hn2 (d + 0) sc_17 hE k10) (fun h hE => ?_)
    refine z_aload_n dX11_dry_32 rfl ?_
    refine z_getC dX11_dry_33 tF_11_68 hE dc_0 rfl rfl ?_
    refine z_bipush (v := 10) dX11_dry_36 (by decide) ?_
    refine z_iload_n dX11_dry_38 rfl ?_
    refine z_iadd dX11_dry_39 ?_
    refine z_aload_n dX11_dry_40 rfl ?_
    refine z_getC dX11_dry_41 tF_11_58 hE dc_0 rfl rfl ?_
    obtain ⟨r12, S11, k13, hf⟩ := zb_some hf
    refine z_callVi dX11_dry_44 tM_11_244 mt_7017 (Nat.le_of_ble_eq_true rfl) rfl rfl (z_recv hE dc_17 rfl) rfl (ia_oks_le hn1 rfl) (Nat.le_of_ble_eq_true rfl) (w_X7_minute hn1 hn2 (d + 4) sc_17 hE k13) (fun h hE => ?_)
    obtain ⟨r15, S14, k16, hf⟩ := zb_some hf
    refine z_callVv dX11_dry_47 tM_11_247 mt_1003 (Nat.le_of_ble_eq_true rfl) rfl rfl (z_recv hE dc_21 rfl) rfl (ia_oks_le hn1 rfl) (Nat.le_of_ble_eq_true rfl) (w_X1_note hn1 hn2 (d + 4) hE k16) (fun h hE => ?_)
    refine z_iconst (v := 1) dX11_dry_50 (by decide) ?_
    have e_ := Option.some.inj hf
    subst e_
    exact z_zreturn dX11_dry_51 rfl (by decide) ⟨h, rfl, rfl, hE⟩
  · have hf := zif_f hf c4
    refine z_if_ne_f (tgt := 10) dX11_dry_5 (by decide) c4 ?_
    refine z_iconst (v := 0) dX11_dry_8 (by decide) ?_
    have e_ := Option.some.inj hf
    subst e_
    exact z_zreturn dX11_dry_9 rfl (by decide) ⟨h, rfl, rfl, hE⟩
def f_X11_pause (v1 : Int32) (S : zS) : Option (Int32 × zS) :=
if (S.1 0 17) = 0 then
some ((-1), S)
else
if v1 < 1 then
some ((-1), S)
else
if v1 ≤ 60 then
zb (f_X1_keep_17 S) fun _ S4 =>
zb (f_X7_rest 17 v1 S4) fun _ S7 =>
zl (fun (q12 : Int32) =>
zb (f_X7_minute 17 S7) fun r14 S13 =>
zb (f_X1_note q12 r14 S13) fun _ S16 =>
zb (f_X7_minute 17 S16) fun r20 S19 =>
some (r20, S19)) fun J11 =>
if ¬ v1 = 10 then
J11 6
else
J11 4
else
some ((-1), S)
theorem w_X11_pause {L : Nat} {xs : Nat → Int32} {fm : Bool} {h0 : Nat → va_E} {t : Nat × Nat × Nat} (hn1 : 64 ≤ t.1) (hn2 : t.1 ≤ 1000000) (d : Nat) {h : Nat → va_E} {S : zS} (hE : zE (zDc t.1) h0 S (h, t)) {v1 : Int32} {R : Int32 × zS} (hf : f_X11_pause v1 S = some R) : zC (ia_P0 L xs fm) (d + 4) 11024 [.ref 0, .int v1] (h, t) (zQi (zDc t.1) h0 t R) := by
  refine zC_of mt_11024 nn_11024 (Nat.le_of_ble_eq_true rfl) ?_
  refine zW_lv (lv' := [(0, .ref 0), (1, .int v1)]) rfl ?_
  unfold f_X11_pause at hf
  refine z_aload_n dX11_pause_0 rfl ?_
  refine z_getI dX11_pause_1 tF_11_149 hE dc_0 rfl rfl ?_
  by_cases c1 : (S.1 0 17) = 0
  · have hf := zif_t hf c1
    refine z_if_eq_t (tgt := 18) dX11_pause_4 (by decide) c1 ?_
    refine z_iconst (v := (-1)) dX11_pause_18 (by decide) ?_
    have e_ := Option.some.inj hf
    subst e_
    exact z_ireturn dX11_pause_19 rfl ⟨h, rfl, rfl, hE⟩
  · have hf := zif_f hf c1
    refine z_if_eq_f (tgt := 18) dX11_pause_4 (by decide) c1 ?_
    refine z_iload_n dX11_pause_7 rfl ?_
    refine z_iconst (v := 1) dX11_pause_8 (by decide) ?_
    by_cases c2 : v1 < 1
    · have hf := zif_t hf c2
      refine z_icmp_lt_t (tgt := 18) dX11_pause_9 (by decide) c2 ?_
      refine z_iconst (v := (-1)) dX11_pause_18 (by decide) ?_
      have e_ := Option.some.inj hf
      subst e_
      exact z_ireturn dX11_pause_19 rfl ⟨h, rfl, rfl, hE⟩
    · have hf := zif_f hf c2
      refine z_icmp_lt_f (tgt := 18) dX11_pause_9 (by decide) c2 ?_
      refine z_iload_n dX11_pause_12 rfl ?_
      refine z_bipush (v := 60) dX11_pause_13 (by decide) ?_
      by_cases c3 : v1 ≤ 60
      · have hf := zif_t hf c3
        refine z_icmp_le_t (tgt := 20) dX11_pause_15 (by decide) c3 ?_
        refine z_aload_n dX11_pause_20 rfl ?_
        refine z_getC dX11_pause_21 tF_11_68 hE dc_0 rfl rfl ?_
        refine z_aload_n dX11_pause_24 rfl ?_
        refine z_getC dX11_pause_25 tF_11_58 hE dc_0 rfl rfl ?_
        obtain ⟨r5, S4, k6, hf⟩ := zb_some hf
        refine z_callVv dX11_pause_28 tM_11_230 mt_1002 (Nat.le_of_ble_eq_true rfl) rfl rfl (z_recv hE dc_21 rfl) rfl (ia_oks_le hn1 rfl) (Nat.le_of_ble_eq_true rfl) (w_X1_keep_17 hn1 hn2 (d + 2) hE k6) (fun h hE => ?_)
        refine z_aload_n dX11_pause_31 rfl ?_
        refine z_getC dX11_pause_32 tF_11_58 hE dc_0 rfl rfl ?_
        refine z_iload_n dX11_pause_35 rfl ?_
        obtain ⟨r8, S7, k9, hf⟩ := zb_some hf
        refine z_callVv dX11_pause_36 tM_11_262 mt_7021 (Nat.le_of_ble_eq_true rfl) rfl rfl (z_recv hE dc_17 rfl) rfl (ia_oks_le hn1 rfl) (Nat.le_of_ble_eq_true rfl) (w_X7_rest hn1 hn2 (d + 0) sc_17 hE k9) (fun h hE => ?_)
        refine z_aload_n dX11_pause_39 rfl ?_
        refine z_getC dX11_pause_40 tF_11_68 hE dc_0 rfl rfl ?_
        refine z_iload_n dX11_pause_43 rfl ?_
        refine z_bipush (v := 10) dX11_pause_44 (by decide) ?_
        obtain ⟨J11, eJ11, hf⟩ := zl_some hf
        have hJ11 : ∀ (q12 : Int32) (h : Nat → va_E), zE (zDc t.1) h0 S7 (h, t) → J11 q12 = some R → zW (ia_P0 L xs fm) ia_nx (d + 3) 11 false cX11_pause 2 (some .int) 55 [(0, .ref 0), (1, .int v1)] [.int q12, .ref 21] (h, t) (zQi (zDc t.1) h0 t R) := by
          intro q12 h hE hf
          rw [eJ11] at hf
          refine z_aload_n dX11_pause_55 rfl ?_
          refine z_getC dX11_pause_56 tF_11_58 hE dc_0 rfl rfl ?_
          obtain ⟨r14, S13, k15, hf⟩ := zb_some hf
          refine z_callVi dX11_pause_59 tM_11_244 mt_7017 (Nat.le_of_ble_eq_true rfl) rfl rfl (z_recv hE dc_17 rfl) rfl (ia_oks_le hn1 rfl) (Nat.le_of_ble_eq_true rfl) (w_X7_minute hn1 hn2 (d + 2) sc_17 hE k15) (fun h hE => ?_)
          obtain ⟨r17, S16, k18, hf⟩ := zb_some hf
          refine z_callVv dX11_pause_62 tM_11_247 mt_1003 (Nat.le_of_ble_eq_true rfl) rfl rfl (z_recv hE dc_21 rfl) rfl (ia_oks_le hn1 rfl) (Nat.le_of_ble_eq_true rfl) (w_X1_note hn1 hn2 (d + 2) hE k18) (fun h hE => ?_)
          refine z_aload_n dX11_pause_65 rfl ?_
          refine z_getC dX11_pause_66 tF_11_58 hE dc_0 rfl rfl ?_
          obtain ⟨r20, S19, k21, hf⟩ := zb_some hf
          refine z_callVi dX11_pause_69 tM_11_244 mt_7017 (Nat.le_of_ble_eq_true rfl) rfl rfl (z_recv hE dc_17 rfl) rfl (ia_oks_le hn1 rfl) (Nat.le_of_ble_eq_true rfl) (w_X7_minute hn1 hn2 (d + 2) sc_17 hE k21) (fun h hE => ?_)
          have e_ := Option.some.inj hf
          subst e_
          exact z_ireturn dX11_pause_72 rfl ⟨h, rfl, rfl, hE⟩
        by_cases c10 : ¬ v1 = 10
        · have hf := zif_t hf c10
          refine z_icmp_ne_t (tgt := 53) dX11_pause_46 (by decide) c10 ?_
          refine z_bipush (v := 6) dX11_pause_53 (by decide) ?_
          exact zW.sub (hJ11 6 _ hE hf) [0, 1] rfl rfl rfl rfl
        · have hf := zif_f hf c10
          refine z_icmp_ne_f (tgt := 53) dX11_pause_46 (by decide) c10 ?_
          refine z_iconst (v := 4) dX11_pause_49 (by decide) ?_
          refine z_goto (tgt := 55) dX11_pause_50 (by decide) ?_
          exact zW.sub (hJ11 4 _ hE hf) [0, 1] rfl rfl rfl rfl
      · have hf := zif_f hf c3
        refine z_icmp_le_f (tgt := 20) dX11_pause_15 (by decide) c3 ?_
        refine z_iconst (v := (-1)) dX11_pause_18 (by decide) ?_
        have e_ := Option.some.inj hf
        subst e_
        exact z_ireturn dX11_pause_19 rfl ⟨h, rfl, rfl, hE⟩
def f_X7_close_L27 (o : Nat) (ex : Int32 → zS → Option (Unit × zS)) (i1 : Int32) : Nat → Int32 → zS → Option (Unit × zS)
  | 0, _, _ => none
  | k + 1, x2, S =>
    if (S.1 12 1) ≤ x2 then
    ex x2 S
    else
    zb (f_X7_loosenedCell o x2 S) fun r15 S14 =>
    if ia_in r15 66 = true then
    zl (sV S14 (o + 1) (r15.toNatClampNeg) 0) fun S18 =>
    zl (x2 + 1) fun (y19 : Int32) =>
    f_X7_close_L27 o ex i1 k y19 S18
    else none
def f_X7_close (o : Nat) (v1 : Int32) (S : zS) : Option (Unit × zS) :=
zb (f_X7_setLid o 5 0 S) fun _ S1 =>
zb (f_X7_handCell o v1 0 S1) fun r5 S4 =>
zb (f_X7_setLid o 1 (r5 / 2) S4) fun _ S7 =>
zb (f_X7_setLid o 0 0 S7) fun _ S10 =>
f_X7_close_L27 o (fun (q21 : Int32) (S20 : zS) =>
zl (sV S20 (o + 1) 65 ((S20.1 (o + 1) 65) + 1)) fun S22 =>
some ((), S22)) v1 zN 0 S10
theorem w_X7_close_L27 {L : Nat} {xs : Nat → Int32} {fm : Bool} {h0 : Nat → va_E} {t : Nat × Nat × Nat} (hn1 : 64 ≤ t.1) (hn2 : t.1 ≤ 1000000) (d : Nat) {o : Nat} (ho_o : zSc t.1 o) {ex : Int32 → zS → Option (Unit × zS)} {i1 : Int32} {R : Unit × zS} (hex : ∀ (x2 : Int32) (S : zS) (h : Nat → va_E), zE (zDc t.1) h0 S (h, t) → ex x2 S = some R → zW (ia_P0 L xs fm) ia_nx (d + 1) 7 false cX7_close 3 (none) 57 [(0, .ref o), (1, .int i1), (2, .int x2)] [] (h, t) (zQv (zDc t.1) h0 t R)) : ∀ (k : Nat) (x2 : Int32) (S : zS) (h : Nat → va_E), zE (zDc t.1) h0 S (h, t) → f_X7_close_L27 o ex i1 k x2 S = some R → zW (ia_P0 L xs fm) ia_nx (d + 1) 7 false cX7_close 3 (none) 27 [(0, .ref o), (1, .int i1), (2, .int x2)] [] (h, t) (zQv (zDc t.1) h0 t R) := by
  intro k
  induction k with
  | zero => intro x2 S h hE hf; cases hf
  | succ k ih =>
    intro x2 S h hE hf
    unfold f_X7_close_L27 at hf
    refine z_iload_n dX7_close_27 rfl ?_
    refine z_aload_n dX7_close_28 rfl ?_
    refine z_getC dX7_close_29 tF_7_15 hE ho_o.1 rfl rfl ?_
    refine z_getC dX7_close_32 tF_7_29 hE dc_11 rfl rfl ?_
    refine z_iconst (v := 1) dX7_close_35 (by decide) ?_
    refine z_ialoadL (i := 1) dX7_close_36 hE dc_12 (by decide) (by decide) ?_
    by_cases c13 : (S.1 12 1) ≤ x2
    · have hf := zif_t hf c13
      refine z_icmp_ge_t (tgt := 57) dX7_close_37 (by decide) c13 ?_
      exact zW.sub (hex x2 S _ hE hf) [0, 1, 2] rfl rfl rfl rfl
    · have hf := zif_f hf c13
      refine z_icmp_ge_f (tgt := 57) dX7_close_37 (by decide) c13 ?_
      refine z_aload_n dX7_close_40 rfl ?_
      refine z_getC dX7_close_41 tF_7_9 hE ho_o.1 rfl rfl ?_
      refine z_aload_n dX7_close_44 rfl ?_
      refine z_iload_n dX7_close_45 rfl ?_
      obtain ⟨r15, S14, k16, hf⟩ := zb_some hf
      refine z_callVi dX7_close_46 tM_7_65 mt_7005 (Nat.le_of_ble_eq_true rfl) rfl rfl (z_recv hE ho_o.1 rfl) rfl (by have q0 : o < t.1 := Nat.lt_of_lt_of_le ho_o.2.2 (Nat.le_trans (by decide) hn1); have q1 : o + 1 < t.1 := Nat.lt_of_lt_of_le (Nat.succ_lt_succ ho_o.2.2) (Nat.le_trans (by decide) hn1); simp [ia_oks, ia_okv, q0, q1]) (Nat.le_of_ble_eq_true rfl) (w_X7_loosenedCell hn1 hn2 (d + 0) ho_o hE k16) (fun h hE => ?_)
      refine z_iconst (v := 0) dX7_close_49 (by decide) ?_
      obtain ⟨b17, hf⟩ := zchk hf
      obtain ⟨S18, eS18, hf⟩ := zl_some hf
      refine z_iastoreL (i := r15.toNatClampNeg) dX7_close_50 hE ho_o.2.1 b17 rfl (fun h hE => ?_)
      rw [← eS18] at hE
      obtain ⟨y19, ey19, hf⟩ := zl_some hf
      refine z_iincY (v := 1) (y := y19) (lv' := [(2, .int y19), (0, .ref o), (1, .int i1)]) dX7_close_51 rfl (by decide) (by decide) ey19 rfl ?_
      refine z_goto (tgt := 27) dX7_close_54 (by decide) ?_
      exact zW.sub (ih y19 S18 _ hE hf) [1, 2, 0] rfl rfl rfl rfl
theorem w_X7_close {L : Nat} {xs : Nat → Int32} {fm : Bool} {h0 : Nat → va_E} {t : Nat × Nat × Nat} (hn1 : 64 ≤ t.1) (hn2 : t.1 ≤ 1000000) (d : Nat) {o : Nat} (ho_o : zSc t.1 o) {h : Nat → va_E} {S : zS} (hE : zE (zDc t.1) h0 S (h, t)) {v1 : Int32} {R : Unit × zS} (hf : f_X7_close o v1 S = some R) : zC (ia_P0 L xs fm) (d + 2) 7023 [.ref o, .int v1] (h, t) (zQv (zDc t.1) h0 t R) := by
  refine zC_of mt_7023 nn_7023 (Nat.le_of_ble_eq_true rfl) ?_
  refine zW_lv (lv' := [(0, .ref o), (1, .int v1)]) rfl ?_
  unfold f_X7_close at hf
  refine z_aload_n dX7_close_0 rfl ?_
  refine z_iconst (v := 5) dX7_close_1 (by decide) ?_
  refine z_iconst (v := 0) dX7_close_2 (by decide) ?_
  obtain ⟨r2, S1, k3, hf⟩ := zb_some hf
  refine z_callVv dX7_close_3 tM_7_58 mt_7012 (Nat.le_of_ble_eq_true rfl) rfl rfl (z_recv hE ho_o.1 rfl) rfl (by have q0 : o < t.1 := Nat.lt_of_lt_of_le ho_o.2.2 (Nat.le_trans (by decide) hn1); simp [ia_oks, ia_okv, q0]) (Nat.le_of_ble_eq_true rfl) (w_X7_setLid hn1 hn2 (d + 0) ho_o hE k3) (fun h hE => ?_)
  refine z_aload_n dX7_close_6 rfl ?_
  refine z_iconst (v := 1) dX7_close_7 (by decide) ?_
  refine z_aload_n dX7_close_8 rfl ?_
  refine z_iload_n dX7_close_9 rfl ?_
  refine z_iconst (v := 0) dX7_close_10 (by decide) ?_
  obtain ⟨r5, S4, k6, hf⟩ := zb_some hf
  refine z_callVi dX7_close_11 tM_7_76 mt_7003 (Nat.le_of_ble_eq_true rfl) rfl rfl (z_recv hE ho_o.1 rfl) rfl (by have q0 : o < t.1 := Nat.lt_of_lt_of_le ho_o.2.2 (Nat.le_trans (by decide) hn1); simp [ia_oks, ia_okv, q0]) (Nat.le_of_ble_eq_true rfl) (w_X7_handCell hn1 hn2 (d + 0) ho_o hE k6) (fun h hE => ?_)
  refine z_iconst (v := 2) dX7_close_14 (by decide) ?_
  refine z_idiv dX7_close_15 (by decide) ?_
  obtain ⟨r8, S7, k9, hf⟩ := zb_some hf
  refine z_callVv dX7_close_16 tM_7_58 mt_7012 (Nat.le_of_ble_eq_true rfl) rfl rfl (z_recv hE ho_o.1 rfl) rfl (by have q0 : o < t.1 := Nat.lt_of_lt_of_le ho_o.2.2 (Nat.le_trans (by decide) hn1); simp [ia_oks, ia_okv, q0]) (Nat.le_of_ble_eq_true rfl) (w_X7_setLid hn1 hn2 (d + 0) ho_o hE k9) (fun h hE => ?_)
  refine z_aload_n dX7_close_19 rfl ?_
  refine z_iconst (v := 0) dX7_close_20 (by decide) ?_
  refine z_iconst (v := 0) dX7_close_21 (by decide) ?_
  obtain ⟨r11, S10, k12, hf⟩ := zb_some hf
  refine z_callVv dX7_close_22 tM_7_58 mt_7012 (Nat.le_of_ble_eq_true rfl) rfl rfl (z_recv hE ho_o.1 rfl) rfl (by have q0 : o < t.1 := Nat.lt_of_lt_of_le ho_o.2.2 (Nat.le_trans (by decide) hn1); simp [ia_oks, ia_okv, q0]) (Nat.le_of_ble_eq_true rfl) (w_X7_setLid hn1 hn2 (d + 0) ho_o hE k12) (fun h hE => ?_)
  refine z_iconst (v := 0) dX7_close_25 (by decide) ?_
  refine z_istore_n (lv' := [(2, .int 0), (0, .ref o), (1, .int v1)]) dX7_close_26 (by decide) rfl ?_
  refine zW.sub (w_X7_close_L27 hn1 hn2 d ho_o (fun q21 S20 h hE hf => ?_) zN 0 S10 h hE hf) [1, 2, 0] rfl rfl rfl rfl
  try dsimp only at hf
  refine z_aload_n dX7_close_57 rfl ?_
  refine z_getC dX7_close_58 tF_7_9 hE ho_o.1 rfl rfl ?_
  refine z_bipush (v := 65) dX7_close_61 (by decide) ?_
  refine z_dup2 dX7_close_63 ⟨rfl, rfl⟩ ?_
  refine z_ialoadL (i := 65) dX7_close_64 hE ho_o.2.1 (by decide) (by decide) ?_
  refine z_iconst (v := 1) dX7_close_65 (by decide) ?_
  refine z_iadd dX7_close_66 ?_
  obtain ⟨S22, eS22, hf⟩ := zl_some hf
  refine z_iastoreL (i := 65) dX7_close_67 hE ho_o.2.1 (by decide) (by decide) (fun h hE => ?_)
  rw [← eS22] at hE
  have e_ := Option.some.inj hf
  subst e_
  exact z_vreturn dX7_close_68 rfl ⟨h, rfl, rfl, hE⟩
def f_X11_shut (v1 : Int32) (S : zS) : Option (Int32 × zS) :=
zb (f_X11_isHand v1 S) fun r2 S1 =>
if r2 = 0 then
some ((-1), S1)
else
zb (f_X7_lid 17 5 S1) fun r6 S5 =>
if ¬ r6 = 0 then
zb (f_X1_keep_17 S5) fun _ S9 =>
zb (f_X7_close 17 v1 S9) fun _ S12 =>
zb (f_X7_minute 17 S12) fun r16 S15 =>
zb (f_X1_note (20 + v1) r16 S15) fun _ S18 =>
zb (f_X7_onTable 17 S18) fun r22 S21 =>
zb (f_X7_hold 17 r22 S21) fun r25 S24 =>
some (r25, S24)
else
some ((-1), S5)
theorem w_X11_shut {L : Nat} {xs : Nat → Int32} {fm : Bool} {h0 : Nat → va_E} {t : Nat × Nat × Nat} (hn1 : 64 ≤ t.1) (hn2 : t.1 ≤ 1000000) (d : Nat) {h : Nat → va_E} {S : zS} (hE : zE (zDc t.1) h0 S (h, t)) {v1 : Int32} {R : Int32 × zS} (hf : f_X11_shut v1 S = some R) : zC (ia_P0 L xs fm) (d + 3) 11025 [.ref 0, .int v1] (h, t) (zQi (zDc t.1) h0 t R) := by
  refine zC_of mt_11025 nn_11025 (Nat.le_of_ble_eq_true rfl) ?_
  refine zW_lv (lv' := [(0, .ref 0), (1, .int v1)]) rfl ?_
  unfold f_X11_shut at hf
  refine z_aload_n dX11_shut_0 rfl ?_
  refine z_iload_n dX11_shut_1 rfl ?_
  obtain ⟨r2, S1, k3, hf⟩ := zb_some hf
  refine z_callVi dX11_shut_2 tM_11_196 mt_11009 (Nat.le_of_ble_eq_true rfl) rfl rfl (z_recv hE dc_0 rfl) rfl (ia_oks_le hn1 rfl) (Nat.le_of_ble_eq_true rfl) (w_X11_isHand hn1 hn2 (d + 1) hE k3) (fun h hE => ?_)
  by_cases c4 : r2 = 0
  · have hf := zif_t hf c4
    refine z_if_eq_t (tgt := 19) dX11_shut_5 (by decide) c4 ?_
    refine z_iconst (v := (-1)) dX11_shut_19 (by decide) ?_
    have e_ := Option.some.inj hf
    subst e_
    exact z_ireturn dX11_shut_20 rfl ⟨h, rfl, rfl, hE⟩
  · have hf := zif_f hf c4
    refine z_if_eq_f (tgt := 19) dX11_shut_5 (by decide) c4 ?_
    refine z_aload_n dX11_shut_8 rfl ?_
    refine z_getC dX11_shut_9 tF_11_58 hE dc_0 rfl rfl ?_
    refine z_iconst (v := 5) dX11_shut_12 (by decide) ?_
    obtain ⟨r6, S5, k7, hf⟩ := zb_some hf
    refine z_callVi dX11_shut_13 tM_11_250 mt_7013 (Nat.le_of_ble_eq_true rfl) rfl rfl (z_recv hE dc_17 rfl) rfl (ia_oks_le hn1 rfl) (Nat.le_of_ble_eq_true rfl) (w_X7_lid hn1 hn2 (d + 1) sc_17 hE k7) (fun h hE => ?_)
    by_cases c8 : ¬ r6 = 0
    · have hf := zif_t hf c8
      refine z_if_ne_t (tgt := 21) dX11_shut_16 (by decide) c8 ?_
      refine z_aload_n dX11_shut_21 rfl ?_
      refine z_getC dX11_shut_22 tF_11_68 hE dc_0 rfl rfl ?_
      refine z_aload_n dX11_shut_25 rfl ?_
      refine z_getC dX11_shut_26 tF_11_58 hE dc_0 rfl rfl ?_
      obtain ⟨r10, S9, k11, hf⟩ := zb_some hf
      refine z_callVv dX11_shut_29 tM_11_230 mt_1002 (Nat.le_of_ble_eq_true rfl) rfl rfl (z_recv hE dc_21 rfl) rfl (ia_oks_le hn1 rfl) (Nat.le_of_ble_eq_true rfl) (w_X1_keep_17 hn1 hn2 (d + 1) hE k11) (fun h hE => ?_)
      refine z_aload_n dX11_shut_32 rfl ?_
      refine z_getC dX11_shut_33 tF_11_58 hE dc_0 rfl rfl ?_
      refine z_iload_n dX11_shut_36 rfl ?_
      obtain ⟨r13, S12, k14, hf⟩ := zb_some hf
      refine z_callVv dX11_shut_37 tM_11_265 mt_7023 (Nat.le_of_ble_eq_true rfl) rfl rfl (z_recv hE dc_17 rfl) rfl (ia_oks_le hn1 rfl) (Nat.le_of_ble_eq_true rfl) (w_X7_close hn1 hn2 (d + 0) sc_17 hE k14) (fun h hE => ?_)
      refine z_aload_n dX11_shut_40 rfl ?_
      refine z_getC dX11_shut_41 tF_11_68 hE dc_0 rfl rfl ?_
      refine z_bipush (v := 20) dX11_shut_44 (by decide) ?_
      refine z_iload_n dX11_shut_46 rfl ?_
      refine z_iadd dX11_shut_47 ?_
      refine z_aload_n dX11_shut_48 rfl ?_
      refine z_getC dX11_shut_49 tF_11_58 hE dc_0 rfl rfl ?_
      obtain ⟨r16, S15, k17, hf⟩ := zb_some hf
      refine z_callVi dX11_shut_52 tM_11_244 mt_7017 (Nat.le_of_ble_eq_true rfl) rfl rfl (z_recv hE dc_17 rfl) rfl (ia_oks_le hn1 rfl) (Nat.le_of_ble_eq_true rfl) (w_X7_minute hn1 hn2 (d + 1) sc_17 hE k17) (fun h hE => ?_)
      obtain ⟨r19, S18, k20, hf⟩ := zb_some hf
      refine z_callVv dX11_shut_55 tM_11_247 mt_1003 (Nat.le_of_ble_eq_true rfl) rfl rfl (z_recv hE dc_21 rfl) rfl (ia_oks_le hn1 rfl) (Nat.le_of_ble_eq_true rfl) (w_X1_note hn1 hn2 (d + 1) hE k20) (fun h hE => ?_)
      refine z_aload_n dX11_shut_58 rfl ?_
      refine z_getC dX11_shut_59 tF_11_58 hE dc_0 rfl rfl ?_
      refine z_aload_n dX11_shut_62 rfl ?_
      refine z_getC dX11_shut_63 tF_11_58 hE dc_0 rfl rfl ?_
      obtain ⟨r22, S21, k23, hf⟩ := zb_some hf
      refine z_callVi dX11_shut_66 tM_11_234 mt_7010 (Nat.le_of_ble_eq_true rfl) rfl rfl (z_recv hE dc_17 rfl) rfl (ia_oks_le hn1 rfl) (Nat.le_of_ble_eq_true rfl) (w_X7_onTable hn1 hn2 (d + 1) sc_17 hE k23) (fun h hE => ?_)
      obtain ⟨r25, S24, k26, hf⟩ := zb_some hf
      refine z_callVi dX11_shut_69 tM_11_185 mt_7009 (Nat.le_of_ble_eq_true rfl) rfl rfl (z_recv hE dc_17 rfl) rfl (ia_oks_le hn1 rfl) (Nat.le_of_ble_eq_true rfl) (w_X7_hold hn1 hn2 (d + 0) sc_17 hE k26) (fun h hE => ?_)
      have e_ := Option.some.inj hf
      subst e_
      exact z_ireturn dX11_shut_72 rfl ⟨h, rfl, rfl, hE⟩
    · have hf := zif_f hf c8
      refine z_if_ne_f (tgt := 21) dX11_shut_16 (by decide) c8 ?_
      refine z_iconst (v := (-1)) dX11_shut_19 (by decide) ?_
      have e_ := Option.some.inj hf
      subst e_
      exact z_ireturn dX11_shut_20 rfl ⟨h, rfl, rfl, hE⟩
def f_X11_table (v1 : Int32) (S : zS) : Option (Int32 × zS) :=
zb (f_X11_isJar v1 S) fun r2 S1 =>
if r2 = 0 then
some (0, S1)
else
zb (f_X7_onTable 17 S1) fun r6 S5 =>
if ¬ v1 = r6 then
zb (f_X1_keep_17 S5) fun _ S9 =>
zl (sV S9 18 64 v1) fun S12 =>
zb (f_X7_minute 17 S12) fun r14 S13 =>
zb (f_X1_note (30 + v1) r14 S13) fun _ S16 =>
some (1, S16)
else
some (0, S5)
theorem w_X11_table {L : Nat} {xs : Nat → Int32} {fm : Bool} {h0 : Nat → va_E} {t : Nat × Nat × Nat} (hn1 : 64 ≤ t.1) (hn2 : t.1 ≤ 1000000) (d : Nat) {h : Nat → va_E} {S : zS} (hE : zE (zDc t.1) h0 S (h, t)) {v1 : Int32} {R : Int32 × zS} (hf : f_X11_table v1 S = some R) : zC (ia_P0 L xs fm) (d + 2) 11026 [.ref 0, .int v1] (h, t) (zQi (zDc t.1) h0 t R) := by
  refine zC_of mt_11026 nn_11026 (Nat.le_of_ble_eq_true rfl) ?_
  refine zW_lv (lv' := [(0, .ref 0), (1, .int v1)]) rfl ?_
  unfold f_X11_table at hf
  refine z_aload_n dX11_table_0 rfl ?_
  refine z_iload_n dX11_table_1 rfl ?_
  obtain ⟨r2, S1, k3, hf⟩ := zb_some hf
  refine z_callVi dX11_table_2 tM_11_178 mt_11016 (Nat.le_of_ble_eq_true rfl) rfl rfl (z_recv hE dc_0 rfl) rfl (ia_oks_le hn1 rfl) (Nat.le_of_ble_eq_true rfl) (w_X11_isJar hn1 hn2 (d + 0) hE k3) (fun h hE => ?_)
  by_cases c4 : r2 = 0
  · have hf := zif_t hf c4
    refine z_if_eq_t (tgt := 19) dX11_table_5 (by decide) c4 ?_
    refine z_iconst (v := 0) dX11_table_19 (by decide) ?_
    have e_ := Option.some.inj hf
    subst e_
    exact z_zreturn dX11_table_20 rfl (by decide) ⟨h, rfl, rfl, hE⟩
  · have hf := zif_f hf c4
    refine z_if_eq_f (tgt := 19) dX11_table_5 (by decide) c4 ?_
    refine z_iload_n dX11_table_8 rfl ?_
    refine z_aload_n dX11_table_9 rfl ?_
    refine z_getC dX11_table_10 tF_11_58 hE dc_0 rfl rfl ?_
    obtain ⟨r6, S5, k7, hf⟩ := zb_some hf
    refine z_callVi dX11_table_13 tM_11_234 mt_7010 (Nat.le_of_ble_eq_true rfl) rfl rfl (z_recv hE dc_17 rfl) rfl (ia_oks_le hn1 rfl) (Nat.le_of_ble_eq_true rfl) (w_X7_onTable hn1 hn2 (d + 0) sc_17 hE k7) (fun h hE => ?_)
    by_cases c8 : ¬ v1 = r6
    · have hf := zif_t hf c8
      refine z_icmp_ne_t (tgt := 21) dX11_table_16 (by decide) c8 ?_
      refine z_aload_n dX11_table_21 rfl ?_
      refine z_getC dX11_table_22 tF_11_68 hE dc_0 rfl rfl ?_
      refine z_aload_n dX11_table_25 rfl ?_
      refine z_getC dX11_table_26 tF_11_58 hE dc_0 rfl rfl ?_
      obtain ⟨r10, S9, k11, hf⟩ := zb_some hf
      refine z_callVv dX11_table_29 tM_11_230 mt_1002 (Nat.le_of_ble_eq_true rfl) rfl rfl (z_recv hE dc_21 rfl) rfl (ia_oks_le hn1 rfl) (Nat.le_of_ble_eq_true rfl) (w_X1_keep_17 hn1 hn2 (d + 0) hE k11) (fun h hE => ?_)
      refine z_aload_n dX11_table_32 rfl ?_
      refine z_getC dX11_table_33 tF_11_58 hE dc_0 rfl rfl ?_
      refine z_getC dX11_table_36 tF_11_268 hE dc_17 rfl rfl ?_
      refine z_bipush (v := 64) dX11_table_39 (by decide) ?_
      refine z_iload_n dX11_table_41 rfl ?_
      obtain ⟨S12, eS12, hf⟩ := zl_some hf
      refine z_iastoreL (i := 64) dX11_table_42 hE dc_18 (by decide) (by decide) (fun h hE => ?_)
      rw [← eS12] at hE
      refine z_aload_n dX11_table_43 rfl ?_
      refine z_getC dX11_table_44 tF_11_68 hE dc_0 rfl rfl ?_
      refine z_bipush (v := 30) dX11_table_47 (by decide) ?_
      refine z_iload_n dX11_table_49 rfl ?_
      refine z_iadd dX11_table_50 ?_
      refine z_aload_n dX11_table_51 rfl ?_
      refine z_getC dX11_table_52 tF_11_58 hE dc_0 rfl rfl ?_
      obtain ⟨r14, S13, k15, hf⟩ := zb_some hf
      refine z_callVi dX11_table_55 tM_11_244 mt_7017 (Nat.le_of_ble_eq_true rfl) rfl rfl (z_recv hE dc_17 rfl) rfl (ia_oks_le hn1 rfl) (Nat.le_of_ble_eq_true rfl) (w_X7_minute hn1 hn2 (d + 0) sc_17 hE k15) (fun h hE => ?_)
      obtain ⟨r17, S16, k18, hf⟩ := zb_some hf
      refine z_callVv dX11_table_58 tM_11_247 mt_1003 (Nat.le_of_ble_eq_true rfl) rfl rfl (z_recv hE dc_21 rfl) rfl (ia_oks_le hn1 rfl) (Nat.le_of_ble_eq_true rfl) (w_X1_note hn1 hn2 (d + 0) hE k18) (fun h hE => ?_)
      refine z_iconst (v := 1) dX11_table_61 (by decide) ?_
      have e_ := Option.some.inj hf
      subst e_
      exact z_zreturn dX11_table_62 rfl (by decide) ⟨h, rfl, rfl, hE⟩
    · have hf := zif_f hf c8
      refine z_icmp_ne_f (tgt := 21) dX11_table_16 (by decide) c8 ?_
      refine z_iconst (v := 0) dX11_table_19 (by decide) ?_
      have e_ := Option.some.inj hf
      subst e_
      exact z_zreturn dX11_table_20 rfl (by decide) ⟨h, rfl, rfl, hE⟩
def f_X1_takeBack_17  (S : zS) : Option (Int32 × zS) :=
if ¬ (S.1 21 6) = 0 then
zl (sV S 21 5 ((((S.1 21 5) + 40) - 1) - (((S.1 21 5) + 40) - 1) / 40 * 40)) fun S2 =>
if 0 ≤ ((S2.1 21 5) * 66).toInt ∧ 0 ≤ (0 : Int32).toInt ∧ 0 ≤ (66 : Int32).toInt ∧ ((S2.1 21 5) * 66).toInt + (66 : Int32).toInt ≤ ((2640 : Nat) : Int) ∧ (0 : Int32).toInt + (66 : Int32).toInt ≤ ((66 : Nat) : Int) then
zl (sC S2 22 (((S2.1 21 5) * 66).toNatClampNeg) 18 ((0 : Int32).toNatClampNeg) ((66 : Int32).toNatClampNeg)) fun S4 =>
zl (sV S4 21 6 ((S4.1 21 6) - 1)) fun S5 =>
zl (sV S5 21 7 ((((S5.1 21 7) + 60) - 1) - (((S5.1 21 7) + 60) - 1) / 60 * 60)) fun S6 =>
zl (sV S6 21 8 (if 0 < ((S6.1 21 8) - 1) then ((S6.1 21 8) - 1) else 0)) fun S7 =>
some (S7.1 21 6, S7)
else none
else
some ((-1), S)
theorem w_X1_takeBack_17 {L : Nat} {xs : Nat → Int32} {fm : Bool} {h0 : Nat → va_E} {t : Nat × Nat × Nat} (hn1 : 64 ≤ t.1) (hn2 : t.1 ≤ 1000000) (d : Nat) {h : Nat → va_E} {S : zS} (hE : zE (zDc t.1) h0 S (h, t)) {R : Int32 × zS} (hf : f_X1_takeBack_17  S = some R) : zC (ia_P0 L xs fm) (d + 1) 1004 [.ref 21, .ref 17] (h, t) (zQi (zDc t.1) h0 t R) := by
  refine zC_of mt_1004 nn_1004 (Nat.le_of_ble_eq_true rfl) ?_
  refine zW_lv (lv' := [(0, .ref 21), (1, .ref 17)]) rfl ?_
  unfold f_X1_takeBack_17 at hf
  refine z_aload_n dX1_takeBack_0 rfl ?_
  refine z_getI dX1_takeBack_1 tF_1_24 hE dc_21 rfl rfl ?_
  by_cases c1 : ¬ (S.1 21 6) = 0
  · have hf := zif_t hf c1
    refine z_if_ne_t (tgt := 9) dX1_takeBack_4 (by decide) c1 ?_
    refine z_aload_n dX1_takeBack_9 rfl ?_
    refine z_aload_n dX1_takeBack_10 rfl ?_
    refine z_getI dX1_takeBack_11 tF_1_46 hE dc_21 rfl rfl ?_
    refine z_bipush (v := 40) dX1_takeBack_14 (by decide) ?_
    refine z_iadd dX1_takeBack_16 ?_
    refine z_iconst (v := 1) dX1_takeBack_17 (by decide) ?_
    refine z_isub dX1_takeBack_18 ?_
    refine z_bipush (v := 40) dX1_takeBack_19 (by decide) ?_
    refine z_irem dX1_takeBack_21 (by decide) ?_
    obtain ⟨S2, eS2, hf⟩ := zl_some hf
    refine z_putI dX1_takeBack_22 tF_1_46 hE dc_21 rfl rfl rfl rfl (fun h hE => ?_)
    rw [← eS2] at hE
    refine z_aload_n dX1_takeBack_25 rfl ?_
    refine z_getC dX1_takeBack_26 tF_1_9 hE dc_21 rfl rfl ?_
    refine z_aload_n dX1_takeBack_29 rfl ?_
    refine z_getI dX1_takeBack_30 tF_1_46 hE dc_21 rfl rfl ?_
    refine z_bipush (v := 66) dX1_takeBack_33 (by decide) ?_
    refine z_imul dX1_takeBack_35 ?_
    refine z_aload_n dX1_takeBack_36 rfl ?_
    refine z_getC dX1_takeBack_37 tF_1_35 hE dc_17 rfl rfl ?_
    refine z_iconst (v := 0) dX1_takeBack_40 (by decide) ?_
    refine z_bipush (v := 66) dX1_takeBack_41 (by decide) ?_
    obtain ⟨b3, hf⟩ := zchk hf
    obtain ⟨S4, eS4, hf⟩ := zl_some hf
    refine z_cpy dX1_takeBack_43 tM_1_40 hE dc_22 dc_18 (Nat.le_of_ble_eq_true rfl) b3 (fun h hE => ?_)
    rw [← eS4] at hE
    refine z_aload_n dX1_takeBack_46 rfl ?_
    refine z_dup dX1_takeBack_47 rfl ?_
    refine z_getI dX1_takeBack_48 tF_1_24 hE dc_21 rfl rfl ?_
    refine z_iconst (v := 1) dX1_takeBack_51 (by decide) ?_
    refine z_isub dX1_takeBack_52 ?_
    obtain ⟨S5, eS5, hf⟩ := zl_some hf
    refine z_putI dX1_takeBack_53 tF_1_24 hE dc_21 rfl rfl rfl rfl (fun h hE => ?_)
    rw [← eS5] at hE
    refine z_aload_n dX1_takeBack_56 rfl ?_
    refine z_aload_n dX1_takeBack_57 rfl ?_
    refine z_getI dX1_takeBack_58 tF_1_55 hE dc_21 rfl rfl ?_
    refine z_bipush (v := 60) dX1_takeBack_61 (by decide) ?_
    refine z_iadd dX1_takeBack_63 ?_
    refine z_iconst (v := 1) dX1_takeBack_64 (by decide) ?_
    refine z_isub dX1_takeBack_65 ?_
    refine z_bipush (v := 60) dX1_takeBack_66 (by decide) ?_
    refine z_irem dX1_takeBack_68 (by decide) ?_
    obtain ⟨S6, eS6, hf⟩ := zl_some hf
    refine z_putI dX1_takeBack_69 tF_1_55 hE dc_21 rfl rfl rfl rfl (fun h hE => ?_)
    rw [← eS6] at hE
    refine z_aload_n dX1_takeBack_72 rfl ?_
    refine z_iconst (v := 0) dX1_takeBack_73 (by decide) ?_
    refine z_aload_n dX1_takeBack_74 rfl ?_
    refine z_getI dX1_takeBack_75 tF_1_28 hE dc_21 rfl rfl ?_
    refine z_iconst (v := 1) dX1_takeBack_78 (by decide) ?_
    refine z_isub dX1_takeBack_79 ?_
    refine z_mmax dX1_takeBack_80 tM_1_58 (Nat.le_of_ble_eq_true rfl) ?_
    obtain ⟨S7, eS7, hf⟩ := zl_some hf
    refine z_putI dX1_takeBack_83 tF_1_28 hE dc_21 rfl rfl rfl rfl (fun h hE => ?_)
    rw [← eS7] at hE
    refine z_aload_n dX1_takeBack_86 rfl ?_
    refine z_getI dX1_takeBack_87 tF_1_24 hE dc_21 rfl rfl ?_
    have e_ := Option.some.inj hf
    subst e_
    exact z_ireturn dX1_takeBack_90 rfl ⟨h, rfl, rfl, hE⟩
  · have hf := zif_f hf c1
    refine z_if_ne_f (tgt := 9) dX1_takeBack_4 (by decide) c1 ?_
    refine z_iconst (v := (-1)) dX1_takeBack_7 (by decide) ?_
    have e_ := Option.some.inj hf
    subst e_
    exact z_ireturn dX1_takeBack_8 rfl ⟨h, rfl, rfl, hE⟩
end ZX
