/-! text: the class (written by wip/whole/gen67.py). -/
section QD
def zQt (h0 : Nat → va_E) (t : Nat × Nat × Nat) (R : Int32 × zS) : Option Value → ia_H → Prop := fun v hp => ∃ h t', hp = (h, t') ∧ v = some (.int R.1) ∧ zE (zDc t'.1) h0 R.2 (h, t') ∧ t.1 ≤ t'.1 ∧ t'.1 ≤ t.1 + 1 ∧ t'.2.1 ≤ t.2.1 + 1 ∧ t'.2.2 ≤ t.2.2 + 202
theorem zQt_of {h0 : Nat → va_E} {t : Nat × Nat × Nat} {R : Int32 × zS} {v : Option Value} {hp : ia_H} (h : zQi (zDc t.1) h0 t R v hp) : zQt h0 t R v hp := by
  obtain ⟨h', rfl, rfl, hE⟩ := h
  exact ⟨h', t, rfl, rfl, hE, Nat.le_refl _, by omega, by omega, by omega⟩
def f_X11_keepLaw (S : zS) : Option (Int32 × zS) :=
if S.1 0 14 < 4 then
if ia_in (S.1 0 14) 4 = true ∧ 0 ≤ (S.1 7 2).toInt ∧ (S.1 7 2).toInt ≤ 202 then
zl (sN S (cpRow (S.1 8) 202 (S.1 7 2).toNatClampNeg) (S.1 7 2).toNatClampNeg) fun S1 =>
zl (sK S1 39 (S.1 0 14).toNatClampNeg (.ref S.2.2.2)) fun S2 =>
zl (sV S2 0 14 ((S2.1 0 14) + 1)) fun S3 =>
zl (sV S3 1 1 0) fun S4 =>
some ((S4.1 0 14) - 1, S4)
else none
else
some ((-1), S)
theorem w_X11_keepLaw {L : Nat} {xs : Nat → Int32} {fm : Bool} {h0 : Nat → va_E} {t : Nat × Nat × Nat} (hn1 : 64 ≤ t.1) (hn2 : t.1 < 1000000) (d : Nat) {h : Nat → va_E} {S : zS} (hE : zE (zDc t.1) h0 S (h, t)) (ho : ia_okh h t.1 = true) {R : Int32 × zS} (hf : f_X11_keepLaw S = some R) : zC (ia_P0 L xs fm) (d + 2) 11006 [.ref 0] (h, t) (zQt h0 t R) := by
  refine zC_of mt_11006 nn_11006 (Nat.le_of_ble_eq_true rfl) ?_
  refine zW_lv (lv' := [(0, .ref 0)]) rfl ?_
  unfold f_X11_keepLaw at hf
  refine z_aload_n dX11_keepLaw_0 rfl ?_
  refine z_getI dX11_keepLaw_1 tF_11_156 hE dc_0 rfl rfl ?_
  refine z_iconst (v := 4) dX11_keepLaw_4 (by decide) ?_
  by_cases c1 : S.1 0 14 < 4
  · have hf := zif_t hf c1
    obtain ⟨b1, hf⟩ := zchk hf
    refine z_icmp_lt_t (tgt := 10) dX11_keepLaw_5 (by decide) c1 ?_
    refine z_aload_n dX11_keepLaw_10 rfl ?_
    refine z_getC dX11_keepLaw_11 tF_11_95 hE dc_0 rfl rfl ?_
    refine z_aload_n dX11_keepLaw_14 rfl ?_
    refine z_getI dX11_keepLaw_15 tF_11_156 hE dc_0 rfl rfl ?_
    refine z_aload_n dX11_keepLaw_18 rfl ?_
    refine z_getC dX11_keepLaw_19 tF_11_28 hE dc_0 rfl rfl ?_
    refine z_getC dX11_keepLaw_22 tF_11_159 hE dc_7 rfl rfl ?_
    refine z_aload_n dX11_keepLaw_25 rfl ?_
    refine z_getC dX11_keepLaw_26 tF_11_28 hE dc_0 rfl rfl ?_
    refine z_getI dX11_keepLaw_29 tF_11_162 hE dc_7 rfl rfl ?_
    have tn := S.2.2.2
    have e0 : S.2.2.2 = t.1 := hE.1
    obtain ⟨m, hm⟩ : ∃ m, m = (S.1 7 2).toNatClampNeg := ⟨_, rfl⟩
    have hm2 : S.1 7 2 = Int32.ofNat m := by
      rw [hm]
      exact (Int32.ofNat_toNatClampNeg _ (Int32.le_iff_toInt_le.mpr (by rw [ti_0]; exact b1.2.1))).symm
    have hm3 : m ≤ 202 := by
      have := b1.2.2
      rw [hm]
      show (S.1 7 2).toInt.toNat ≤ 202
      omega
    have hrow : h 8 = .inl (0, 202, .inl (S.1 8)) := (hE.2.1 8 _ dc_8).2
    rw [hm2]
    refine z_callS dX11_keepLaw_32 tM_11_163 (Or.inl rfl) mt_904001 (Nat.le_of_ble_eq_true rfl) rfl rfl (ia_oks_le hn1 rfl) (Nat.le_of_ble_eq_true rfl) (w_copyOf hn2 ho (by omega) hrow (by decide) hm3 d) (fun v hp q => ?_)
    obtain ⟨rfl, h', rfl, q1, q2⟩ := q
    rw [← hm] at hf
    obtain ⟨S1, eS1, hf⟩ := zl_some hf
    have hE1 := hE.mk (h' := h') (t' := (t.1 + 1, t.2.1 + 1, t.2.2 + m)) hn1 rfl q1 q2
    rw [← eS1] at hE1
    obtain ⟨S2, eS2, hf⟩ := zl_some hf
    refine z_aastore dX11_keepLaw_35 hE1 dc_39 (Nat.lt_succ_self _) q1 b1.1 (fun h hE => ?_)
    rw [e0] at eS2
    rw [← eS2] at hE
    refine z_aload_n dX11_keepLaw_36 rfl ?_
    refine z_dup dX11_keepLaw_37 rfl ?_
    refine z_getI dX11_keepLaw_38 tF_11_156 hE dc_0 rfl rfl ?_
    refine z_iconst (v := 1) dX11_keepLaw_41 (by decide) ?_
    refine z_iadd dX11_keepLaw_42 ?_
    obtain ⟨S3, eS3, hf⟩ := zl_some hf
    refine z_putI dX11_keepLaw_43 tF_11_156 hE dc_0 rfl rfl rfl rfl (fun h hE => ?_)
    rw [← eS3] at hE
    refine z_aload_n dX11_keepLaw_46 rfl ?_
    refine z_getC dX11_keepLaw_47 tF_11_10 hE dc_0 rfl rfl ?_
    refine z_iconst (v := 0) dX11_keepLaw_50 (by decide) ?_
    obtain ⟨S4, eS4, hf⟩ := zl_some hf
    refine z_putI dX11_keepLaw_51 tF_11_110 hE dc_1 rfl rfl rfl rfl (fun h hE => ?_)
    rw [← eS4] at hE
    refine z_aload_n dX11_keepLaw_54 rfl ?_
    refine z_getI dX11_keepLaw_55 tF_11_156 hE dc_0 rfl rfl ?_
    refine z_iconst (v := 1) dX11_keepLaw_58 (by decide) ?_
    refine z_isub dX11_keepLaw_59 ?_
    have e_ := Option.some.inj hf
    subst e_
    exact z_ireturn dX11_keepLaw_60 rfl ⟨h, (t.1 + 1, t.2.1 + 1, t.2.2 + m), rfl, rfl, hE, Nat.le_succ _, Nat.le_refl _, Nat.le_refl _, Nat.add_le_add_left (by omega) _⟩
  · have hf := zif_f hf c1
    refine z_icmp_lt_f (tgt := 10) dX11_keepLaw_5 (by decide) c1 ?_
    refine z_iconst (v := (-1)) dX11_keepLaw_8 (by decide) ?_
    have e_ := Option.some.inj hf
    subst e_
    exact z_ireturn dX11_keepLaw_9 rfl ⟨h, t, rfl, rfl, hE, Nat.le_refl _, Nat.le_succ _, Nat.le_succ _, Nat.le_add_right _ _⟩
def f_X11_keepPlan (S : zS) : Option (Int32 × zS) :=
if S.1 0 15 < 4 then
if ia_in (S.1 0 15) 4 = true ∧ 0 ≤ (S.1 9 2).toInt ∧ (S.1 9 2).toInt ≤ 16 then
zl (sN S (cpRow (S.1 10) 16 (S.1 9 2).toNatClampNeg) (S.1 9 2).toNatClampNeg) fun S1 =>
zl (sK S1 40 (S.1 0 15).toNatClampNeg (.ref S.2.2.2)) fun S2 =>
zl (sV S2 0 15 ((S2.1 0 15) + 1)) fun S3 =>
zl (sV S3 1 1 0) fun S4 =>
some ((S4.1 0 15) - 1, S4)
else none
else
some ((-1), S)
theorem w_X11_keepPlan {L : Nat} {xs : Nat → Int32} {fm : Bool} {h0 : Nat → va_E} {t : Nat × Nat × Nat} (hn1 : 64 ≤ t.1) (hn2 : t.1 < 1000000) (d : Nat) {h : Nat → va_E} {S : zS} (hE : zE (zDc t.1) h0 S (h, t)) (ho : ia_okh h t.1 = true) {R : Int32 × zS} (hf : f_X11_keepPlan S = some R) : zC (ia_P0 L xs fm) (d + 2) 11007 [.ref 0] (h, t) (zQt h0 t R) := by
  refine zC_of mt_11007 nn_11007 (Nat.le_of_ble_eq_true rfl) ?_
  refine zW_lv (lv' := [(0, .ref 0)]) rfl ?_
  unfold f_X11_keepPlan at hf
  refine z_aload_n dX11_keepPlan_0 rfl ?_
  refine z_getI dX11_keepPlan_1 tF_11_169 hE dc_0 rfl rfl ?_
  refine z_iconst (v := 4) dX11_keepPlan_4 (by decide) ?_
  by_cases c1 : S.1 0 15 < 4
  · have hf := zif_t hf c1
    obtain ⟨b1, hf⟩ := zchk hf
    refine z_icmp_lt_t (tgt := 10) dX11_keepPlan_5 (by decide) c1 ?_
    refine z_aload_n dX11_keepPlan_10 rfl ?_
    refine z_getC dX11_keepPlan_11 tF_11_99 hE dc_0 rfl rfl ?_
    refine z_aload_n dX11_keepPlan_14 rfl ?_
    refine z_getI dX11_keepPlan_15 tF_11_169 hE dc_0 rfl rfl ?_
    refine z_aload_n dX11_keepPlan_18 rfl ?_
    refine z_getC dX11_keepPlan_19 tF_11_35 hE dc_0 rfl rfl ?_
    refine z_getC dX11_keepPlan_22 tF_11_172 hE dc_9 rfl rfl ?_
    refine z_aload_n dX11_keepPlan_25 rfl ?_
    refine z_getC dX11_keepPlan_26 tF_11_35 hE dc_0 rfl rfl ?_
    refine z_getI dX11_keepPlan_29 tF_11_175 hE dc_9 rfl rfl ?_
    have tn := S.2.2.2
    have e0 : S.2.2.2 = t.1 := hE.1
    obtain ⟨m, hm⟩ : ∃ m, m = (S.1 9 2).toNatClampNeg := ⟨_, rfl⟩
    have hm2 : S.1 9 2 = Int32.ofNat m := by
      rw [hm]
      exact (Int32.ofNat_toNatClampNeg _ (Int32.le_iff_toInt_le.mpr (by rw [ti_0]; exact b1.2.1))).symm
    have hm3 : m ≤ 16 := by
      have := b1.2.2
      rw [hm]
      show (S.1 9 2).toInt.toNat ≤ 16
      omega
    have hrow : h 10 = .inl (0, 16, .inl (S.1 10)) := (hE.2.1 10 _ dc_10).2
    rw [hm2]
    refine z_callS dX11_keepPlan_32 tM_11_163 (Or.inl rfl) mt_904001 (Nat.le_of_ble_eq_true rfl) rfl rfl (ia_oks_le hn1 rfl) (Nat.le_of_ble_eq_true rfl) (w_copyOf hn2 ho (by omega) hrow (by decide) hm3 d) (fun v hp q => ?_)
    obtain ⟨rfl, h', rfl, q1, q2⟩ := q
    rw [← hm] at hf
    obtain ⟨S1, eS1, hf⟩ := zl_some hf
    have hE1 := hE.mk (h' := h') (t' := (t.1 + 1, t.2.1 + 1, t.2.2 + m)) hn1 rfl q1 q2
    rw [← eS1] at hE1
    obtain ⟨S2, eS2, hf⟩ := zl_some hf
    refine z_aastore dX11_keepPlan_35 hE1 dc_40 (Nat.lt_succ_self _) q1 b1.1 (fun h hE => ?_)
    rw [e0] at eS2
    rw [← eS2] at hE
    refine z_aload_n dX11_keepPlan_36 rfl ?_
    refine z_dup dX11_keepPlan_37 rfl ?_
    refine z_getI dX11_keepPlan_38 tF_11_169 hE dc_0 rfl rfl ?_
    refine z_iconst (v := 1) dX11_keepPlan_41 (by decide) ?_
    refine z_iadd dX11_keepPlan_42 ?_
    obtain ⟨S3, eS3, hf⟩ := zl_some hf
    refine z_putI dX11_keepPlan_43 tF_11_169 hE dc_0 rfl rfl rfl rfl (fun h hE => ?_)
    rw [← eS3] at hE
    refine z_aload_n dX11_keepPlan_46 rfl ?_
    refine z_getC dX11_keepPlan_47 tF_11_10 hE dc_0 rfl rfl ?_
    refine z_iconst (v := 0) dX11_keepPlan_50 (by decide) ?_
    obtain ⟨S4, eS4, hf⟩ := zl_some hf
    refine z_putI dX11_keepPlan_51 tF_11_110 hE dc_1 rfl rfl rfl rfl (fun h hE => ?_)
    rw [← eS4] at hE
    refine z_aload_n dX11_keepPlan_54 rfl ?_
    refine z_getI dX11_keepPlan_55 tF_11_169 hE dc_0 rfl rfl ?_
    refine z_iconst (v := 1) dX11_keepPlan_58 (by decide) ?_
    refine z_isub dX11_keepPlan_59 ?_
    have e_ := Option.some.inj hf
    subst e_
    exact z_ireturn dX11_keepPlan_60 rfl ⟨h, (t.1 + 1, t.2.1 + 1, t.2.2 + m), rfl, rfl, hE, Nat.le_succ _, Nat.le_refl _, Nat.le_refl _, Nat.add_le_add_left (by omega) _⟩
  · have hf := zif_f hf c1
    refine z_icmp_lt_f (tgt := 10) dX11_keepPlan_5 (by decide) c1 ?_
    refine z_iconst (v := (-1)) dX11_keepPlan_8 (by decide) ?_
    have e_ := Option.some.inj hf
    subst e_
    exact z_ireturn dX11_keepPlan_9 rfl ⟨h, t, rfl, rfl, hE, Nat.le_refl _, Nat.le_succ _, Nat.le_succ _, Nat.le_add_right _ _⟩
def f_X11_text (v1 : Int32) (S : zS) : Option (Int32 × zS) :=
if v1.toInt < 0 ∨ 2 < v1.toInt then
some ((-1), S)
else
if v1 = 0 then
zb (f_X4_firstWrong S) fun r3 S2 =>
if ¬ r3 = (-1) then
some ((-1), S2)
else
f_X11_keepKitchen S2
else if v1 = 1 then
zb (f_X5_firstWrong S) fun r7 S6 =>
if ¬ r7 = (-1) then
some ((-1), S6)
else
f_X11_keepLaw S6
else if v1 = 2 then
zb (f_X6_firstWrong S) fun r11 S10 =>
if ¬ r11 = (-1) then
some ((-1), S10)
else
f_X11_keepPlan S10
else none
theorem w_X11_text {L : Nat} {xs : Nat → Int32} {fm : Bool} {h0 : Nat → va_E} {t : Nat × Nat × Nat} (hn1 : 64 ≤ t.1) (hn2 : t.1 < 1000000) (d : Nat) {h : Nat → va_E} {S : zS} (hE : zE (zDc t.1) h0 S (h, t)) (ho : ia_okh h t.1 = true) {v1 : Int32} {R : Int32 × zS} (hf : f_X11_text v1 S = some R) : zC (ia_P0 L xs fm) (d + 143) 11004 [.ref 0, .int v1] (h, t) (zQt h0 t R) := by
  have hn3 : t.1 ≤ 1000000 := by omega
  have G := gdT_0 L xs fm
  have o0 : ∀ a, a < 64 → ia_okv t.1 (.ref a) = true := fun a ha => by
    simp only [ia_okv, Bool.or_eq_true, decide_eq_true_eq]
    exact Or.inl (Nat.lt_of_lt_of_le ha hn1)
  refine zC_of mt_11004 nn_11004 (Nat.le_of_ble_eq_true rfl) ?_
  refine zW_lv (lv' := [(0, .ref 0), (1, .int v1)]) rfl ?_
  unfold f_X11_text at hf
  refine z_iload_n dX11_text_0 rfl ?_
  by_cases c1 : v1.toInt < 0 ∨ 2 < v1.toInt
  · have hf := zif_t hf c1
    refine z_tabO (tgt := 88) dX11_text_1 c1 (by decide) ?_
    refine z_iconst (v := (-1)) dX11_text_88 (by decide) ?_
    have e_ := Option.some.inj hf
    subst e_
    exact z_ireturn dX11_text_89 rfl (zQt_of ⟨h, rfl, rfl, hE⟩)
  · have hf := zif_f hf c1
    by_cases c5 : v1 = 0
    · have hf := zif_t hf c5
      refine z_tabI (off := 27) (tgt := 28) dX11_text_1 c1 (by rw [c5]; rfl) (by decide) ?_
      refine z_aload_n dX11_text_28 rfl ?_
      refine z_getC dX11_text_29 tF_11_21 hE dc_0 rfl rfl ?_
      obtain ⟨r3, S2, k4, hf⟩ := zb_some hf
      refine z_callVi dX11_text_32 tM_11_117 mt_4001 (Nat.le_of_ble_eq_true rfl) rfl rfl (z_recv hE dc_3 rfl) rfl (ia_oks_le hn1 rfl) (Nat.le_of_ble_eq_true rfl) (w_X4_firstWrong hn1 hn3 (d + 135) hE k4) (fun h hE => ?_)
      refine z_iconst (v := (-1)) dX11_text_35 (by decide) ?_
      by_cases c6 : ¬ r3 = -1
      · have hf := zif_t hf c6
        refine z_icmp_ne_t (tgt := 46) dX11_text_36 (by decide) c6 ?_
        refine z_iconst (v := (-1)) dX11_text_46 (by decide) ?_
        have e_ := Option.some.inj hf
        subst e_
        exact z_ireturn dX11_text_47 rfl (zQt_of ⟨h, rfl, rfl, hE⟩)
      · have hf := zif_f hf c6
        refine z_icmp_ne_f (tgt := 46) dX11_text_36 (by decide) c6 ?_
        refine z_aload_n dX11_text_39 rfl ?_
        obtain ⟨r9, S9⟩ := R
        refine z_callVi dX11_text_40 tM_11_123 mt_11005 (Nat.le_of_ble_eq_true rfl) rfl rfl (z_recv hE dc_0 rfl) rfl (ia_oks_le hn1 rfl) (Nat.le_of_ble_eq_true rfl) (w_X11_keepKitchen hn1 hn3 (d + 138) hE hf) (fun h hE => ?_)
        refine z_goto (tgt := 47) dX11_text_43 (by decide) ?_
        exact z_ireturn dX11_text_47 rfl (zQt_of ⟨h, rfl, rfl, hE⟩)
    · have hf := zif_f hf c5
      by_cases c9 : v1 = 1
      · have hf := zif_t hf c9
        refine z_tabI (off := 47) (tgt := 48) dX11_text_1 c1 (by rw [c9]; rfl) (by decide) ?_
        refine z_aload_n dX11_text_48 rfl ?_
        refine z_getC dX11_text_49 tF_11_28 hE dc_0 rfl rfl ?_
        obtain ⟨r7, S6, k8, hf⟩ := zb_some hf
        refine z_callV dX11_text_52 tM_11_121 mt_5001 (Nat.le_of_ble_eq_true rfl) rfl rfl (z_recv hE dc_7 rfl) rfl (ia_oks_le hn1 rfl) (Nat.le_of_ble_eq_true rfl) ((w_X5_firstWrong hn1 hn3 (d + 0) hE k8).ok G ho (okS_c.mpr ⟨o0 7 (by decide), rfl⟩)) (fun v hp q => ?_)
        obtain ⟨⟨h, rfl, rfl, hE⟩, ho⟩ := q
        refine z_iconst (v := (-1)) dX11_text_55 (by decide) ?_
        by_cases c6 : ¬ r7 = -1
        · have hf := zif_t hf c6
          refine z_icmp_ne_t (tgt := 66) dX11_text_56 (by decide) c6 ?_
          refine z_iconst (v := (-1)) dX11_text_66 (by decide) ?_
          have e_ := Option.some.inj hf
          subst e_
          exact z_ireturn dX11_text_67 rfl (zQt_of ⟨h, rfl, rfl, hE⟩)
        · have hf := zif_f hf c6
          refine z_icmp_ne_f (tgt := 66) dX11_text_56 (by decide) c6 ?_
          refine z_aload_n dX11_text_59 rfl ?_
          refine z_callV dX11_text_60 tM_11_126 mt_11006 (Nat.le_of_ble_eq_true rfl) rfl rfl (z_recv hE dc_0 rfl) rfl (ia_oks_le hn1 rfl) (Nat.le_of_ble_eq_true rfl) (w_X11_keepLaw hn1 hn2 (d + 140) hE ho hf) (fun v hp q => ?_)
          obtain ⟨h2, t2, rfl, rfl, q⟩ := q
          refine z_goto (tgt := 67) dX11_text_63 (by decide) ?_
          exact z_ireturn dX11_text_67 rfl ⟨h2, t2, rfl, rfl, q⟩
      · have hf := zif_f hf c9
        by_cases c13 : v1 = 2
        · have hf := zif_t hf c13
          refine z_tabI (off := 67) (tgt := 68) dX11_text_1 c1 (by rw [c13]; rfl) (by decide) ?_
          refine z_aload_n dX11_text_68 rfl ?_
          refine z_getC dX11_text_69 tF_11_35 hE dc_0 rfl rfl ?_
          obtain ⟨r11, S10, k12, hf⟩ := zb_some hf
          refine z_callV dX11_text_72 tM_11_122 mt_6001 (Nat.le_of_ble_eq_true rfl) rfl rfl (z_recv hE dc_9 rfl) rfl (ia_oks_le hn1 rfl) (Nat.le_of_ble_eq_true rfl) ((w_X6_firstWrong hn1 hn3 (d + 136) hE k12).ok G ho (okS_c.mpr ⟨o0 9 (by decide), rfl⟩)) (fun v hp q => ?_)
          obtain ⟨⟨h, rfl, rfl, hE⟩, ho⟩ := q
          refine z_iconst (v := (-1)) dX11_text_75 (by decide) ?_
          by_cases c6 : ¬ r11 = -1
          · have hf := zif_t hf c6
            refine z_icmp_ne_t (tgt := 86) dX11_text_76 (by decide) c6 ?_
            refine z_iconst (v := (-1)) dX11_text_86 (by decide) ?_
            have e_ := Option.some.inj hf
            subst e_
            exact z_ireturn dX11_text_87 rfl (zQt_of ⟨h, rfl, rfl, hE⟩)
          · have hf := zif_f hf c6
            refine z_icmp_ne_f (tgt := 86) dX11_text_76 (by decide) c6 ?_
            refine z_aload_n dX11_text_79 rfl ?_
            refine z_callV dX11_text_80 tM_11_129 mt_11007 (Nat.le_of_ble_eq_true rfl) rfl rfl (z_recv hE dc_0 rfl) rfl (ia_oks_le hn1 rfl) (Nat.le_of_ble_eq_true rfl) (w_X11_keepPlan hn1 hn2 (d + 140) hE ho hf) (fun v hp q => ?_)
            obtain ⟨h2, t2, rfl, rfl, q⟩ := q
            refine z_goto (tgt := 87) dX11_text_83 (by decide) ?_
            exact z_ireturn dX11_text_87 rfl ⟨h2, t2, rfl, rfl, q⟩
        · have hf := zif_f hf c13
          cases hf
end QD
