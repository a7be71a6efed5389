section ZX
def f_J7_fill_53178_L5 (q : Nat) (N : Nat) (ex : Int32 → zS → Option (Unit × zS)) (i1 : Int32) (i3 : Int32) : Nat → Int32 → zS → Option (Unit × zS)
  | 0, _, _ => none
  | k + 1, x2, S =>
    if i3 ≤ x2 then
    ex x2 S
    else
    if ia_in x2 N = true then
    zl (sV S q (x2.toNatClampNeg) i1) fun S4 =>
    zl (x2 + 1) fun (y5 : Int32) =>
    f_J7_fill_53178_L5 q N ex i1 i3 k y5 S4
    else none
def f_J7_fill_53178 (q : Nat) (N : Nat) (v1 : Int32) (S : zS) : Option (Unit × zS) :=
zl (Int32.ofNat N) fun (y1 : Int32) =>
f_J7_fill_53178_L5 q N (fun (q7 : Int32) (S6 : zS) =>
some ((), S6)) v1 y1 zN 0 S
theorem w_J7_fill_53178_L5 {L : Nat} {xs : Nat → Int32} {fm : Bool} {h0 : Nat → va_E} {t : Nat × Nat × Nat} (hn1 : 64 ≤ t.1) (hn2 : t.1 ≤ 1000000) (d : Nat) {q : Nat} {N : Nat} (hq_q : zDc t.1 q = some (0, N, [])) {ex : Int32 → zS → Option (Unit × zS)} {i1 : Int32} {i3 : Int32} {R : Unit × zS} (hex : ∀ (x2 : Int32) (S : zS) (h : Nat → va_E), zE (zDc t.1) h0 S (h, t) → ex x2 S = some R → zW (ia_P0 L xs fm) ia_nx (d + 0) 904 false cJ7_fill_53178 4 (none) 20 [(0, .ref q), (1, .int i1), (2, .int x2), (3, .int i3)] [] (h, t) (zQv (zDc t.1) h0 t R)) : ∀ (k : Nat) (x2 : Int32) (S : zS) (h : Nat → va_E), zE (zDc t.1) h0 S (h, t) → f_J7_fill_53178_L5 q N ex i1 i3 k x2 S = some R → zW (ia_P0 L xs fm) ia_nx (d + 0) 904 false cJ7_fill_53178 4 (none) 5 [(0, .ref q), (1, .int i1), (2, .int x2), (3, .int i3)] [] (h, t) (zQv (zDc t.1) h0 t R) := by
  intro k
  induction k with
  | zero => intro x2 S h hE hf; cases hf
  | succ k ih =>
    intro x2 S h hE hf
    unfold f_J7_fill_53178_L5 at hf
    refine z_iload_n dJ7_fill_53178_5 rfl ?_
    refine z_iload_n dJ7_fill_53178_6 rfl ?_
    by_cases c2 : i3 ≤ x2
    · have hf := zif_t hf c2
      refine z_icmp_ge_t (tgt := 20) dJ7_fill_53178_7 (by decide) c2 ?_
      exact zW.sub (hex x2 S _ hE hf) [0, 1, 2, 3] rfl rfl rfl rfl
    · have hf := zif_f hf c2
      refine z_icmp_ge_f (tgt := 20) dJ7_fill_53178_7 (by decide) c2 ?_
      refine z_aload_n dJ7_fill_53178_10 rfl ?_
      refine z_iload_n dJ7_fill_53178_11 rfl ?_
      refine z_iload_n dJ7_fill_53178_12 rfl ?_
      obtain ⟨b3, hf⟩ := zchk hf
      obtain ⟨S4, eS4, hf⟩ := zl_some hf
      refine z_iastoreL (i := x2.toNatClampNeg) dJ7_fill_53178_13 hE hq_q b3 rfl (fun h hE => ?_)
      rw [← eS4] at hE
      obtain ⟨y5, ey5, hf⟩ := zl_some hf
      refine z_iincY (v := 1) (y := y5) (lv' := [(2, .int y5), (0, .ref q), (1, .int i1), (3, .int i3)]) dJ7_fill_53178_14 rfl (by decide) (by decide) ey5 rfl ?_
      refine z_goto (tgt := 5) dJ7_fill_53178_17 (by decide) ?_
      exact zW.sub (ih y5 S4 _ hE hf) [1, 2, 0, 3] rfl rfl rfl rfl
theorem w_J7_fill_53178 {L : Nat} {xs : Nat → Int32} {fm : Bool} {h0 : Nat → va_E} {t : Nat × Nat × Nat} (hn1 : 64 ≤ t.1) (hn2 : t.1 ≤ 1000000) (d : Nat) {q : Nat} {N : Nat} (hq_q : zDc t.1 q = some (0, N, [])) {h : Nat → va_E} {S : zS} (hE : zE (zDc t.1) h0 S (h, t)) {v1 : Int32} {R : Unit × zS} (hf : f_J7_fill_53178 q N v1 S = some R) : zC (ia_P0 L xs fm) (d + 1) 904000 [.ref q, .int v1] (h, t) (zQv (zDc t.1) h0 t R) := by
  refine zC_of mt_904000 nn_904000 (Nat.le_of_ble_eq_true rfl) ?_
  refine zW_lv (lv' := [(0, .ref q), (1, .int v1)]) rfl ?_
  unfold f_J7_fill_53178 at hf
  refine z_iconst (v := 0) dJ7_fill_53178_0 (by decide) ?_
  refine z_istore_n (lv' := [(2, .int 0), (0, .ref q), (1, .int v1)]) dJ7_fill_53178_1 (by decide) rfl ?_
  refine z_aload_n dJ7_fill_53178_2 rfl ?_
  refine z_alen (v := Int32.ofNat N) dJ7_fill_53178_3 hE hq_q (by decide) rfl ?_
  obtain ⟨y1, ey1, hf⟩ := zl_some hf
  refine z_topi ey1 ?_
  refine z_istore_n (lv' := [(3, .int y1), (2, .int 0), (0, .ref q), (1, .int v1)]) dJ7_fill_53178_4 (by decide) rfl ?_
  refine zW.sub (w_J7_fill_53178_L5 hn1 hn2 d hq_q (fun q7 S6 h hE hf => ?_) zN 0 S h hE hf) [2, 3, 1, 0] rfl rfl rfl rfl
  try dsimp only at hf
  have e_ := Option.some.inj hf
  subst e_
  exact z_vreturn dJ7_fill_53178_20 rfl ⟨h, rfl, rfl, hE⟩
def f_J0_isLatin1_aae02_1000100  (S : zS) : Option (Int32 × zS) :=
some (1, S)
theorem w_J0_isLatin1_aae02_1000100 {L : Nat} {xs : Nat → Int32} {fm : Bool} {D : Nat → Option zD} {h0 : Nat → va_E} {t : Nat × Nat × Nat} (hn1 : 64 ≤ t.1) (hn2 : t.1 ≤ 1000000) (d : Nat) {h : Nat → va_E} {S : zS} (hE : zE D h0 S (h, t)) {R : Int32 × zS} (hf : f_J0_isLatin1_aae02_1000100  S = some R) : zC (ia_P0 L xs fm) (d + 1) 900002 [.ref 1000100] (h, t) (zQi D h0 t R) := by
  refine zC_of mt_900002 nn_900002 (Nat.le_of_ble_eq_true rfl) ?_
  refine zW_lv (lv' := [(0, .ref 1000100)]) rfl ?_
  unfold f_J0_isLatin1_aae02_1000100 at hf
  refine z_getstatic dJ0_isLatin1_aae02_0 tS_900_38 ?_
  refine z_if_eq_f (tgt := 17) dJ0_isLatin1_aae02_3 (by decide) (by decide) ?_
  refine z_aload_n dJ0_isLatin1_aae02_6 rfl ?_
  refine z_getCC dJ0_isLatin1_aae02_7 tF_900_15 (by decide) hn2 hc_1000100 rfl ?_
  refine z_if_ne_f (tgt := 17) dJ0_isLatin1_aae02_10 (by decide) (by decide) ?_
  refine z_iconst (v := 1) dJ0_isLatin1_aae02_13 (by decide) ?_
  refine z_goto (tgt := 18) dJ0_isLatin1_aae02_14 (by decide) ?_
  have e_ := Option.some.inj hf
  subst e_
  exact z_zreturn dJ0_isLatin1_aae02_18 rfl (by decide) ⟨h, rfl, rfl, hE⟩
def f_J0_coder_7d493_1000100  (S : zS) : Option (Int32 × zS) :=
some (0, S)
theorem w_J0_coder_7d493_1000100 {L : Nat} {xs : Nat → Int32} {fm : Bool} {D : Nat → Option zD} {h0 : Nat → va_E} {t : Nat × Nat × Nat} (hn1 : 64 ≤ t.1) (hn2 : t.1 ≤ 1000000) (d : Nat) {h : Nat → va_E} {S : zS} (hE : zE D h0 S (h, t)) {R : Int32 × zS} (hf : f_J0_coder_7d493_1000100  S = some R) : zC (ia_P0 L xs fm) (d + 1) 900004 [.ref 1000100] (h, t) (zQi D h0 t R) := by
  refine zC_of mt_900004 nn_900004 (Nat.le_of_ble_eq_true rfl) ?_
  refine zW_lv (lv' := [(0, .ref 1000100)]) rfl ?_
  unfold f_J0_coder_7d493_1000100 at hf
  refine z_getstatic dJ0_coder_7d493_0 tS_900_38 ?_
  refine z_if_eq_f (tgt := 13) dJ0_coder_7d493_3 (by decide) (by decide) ?_
  refine z_aload_n dJ0_coder_7d493_6 rfl ?_
  refine z_getCC dJ0_coder_7d493_7 tF_900_15 (by decide) hn2 hc_1000100 rfl ?_
  refine z_goto (tgt := 14) dJ0_coder_7d493_10 (by decide) ?_
  have e_ := Option.some.inj hf
  subst e_
  exact z_breturn dJ0_coder_7d493_14 rfl (by decide) ⟨h, rfl, rfl, hE⟩
def f_J0_length_8abf5_1000100  (S : zS) : Option (Int32 × zS) :=
zb (f_J0_coder_7d493_1000100 S) fun r2 S1 =>
some (3 >>> (r2 &&& 31), S1)
theorem w_J0_length_8abf5_1000100 {L : Nat} {xs : Nat → Int32} {fm : Bool} {D : Nat → Option zD} {h0 : Nat → va_E} {t : Nat × Nat × Nat} (hn1 : 64 ≤ t.1) (hn2 : t.1 ≤ 1000000) (d : Nat) {h : Nat → va_E} {S : zS} (hE : zE D h0 S (h, t)) {R : Int32 × zS} (hf : f_J0_length_8abf5_1000100  S = some R) : zC (ia_P0 L xs fm) (d + 2) 900003 [.ref 1000100] (h, t) (zQi D h0 t R) := by
  refine zC_of mt_900003 nn_900003 (Nat.le_of_ble_eq_true rfl) ?_
  refine zW_lv (lv' := [(0, .ref 1000100)]) rfl ?_
  unfold f_J0_length_8abf5_1000100 at hf
  refine z_aload_n dJ0_length_8abf5_0 rfl ?_
  refine z_getCC dJ0_length_8abf5_1 tF_900_9 (by decide) hn2 hc_1000100 rfl ?_
  refine z_alenC (v := 3) dJ0_length_8abf5_4 (by decide) hn2 hc_1000200 (by decide) (by decide) ?_
  refine z_aload_n dJ0_length_8abf5_5 rfl ?_
  obtain ⟨r2, S1, k3, hf⟩ := zb_some hf
  refine z_callVi dJ0_length_8abf5_6 tM_900_335 mt_900004 (Nat.le_of_ble_eq_true rfl) rfl rfl (z_recvC (hp := (h, t)) (by decide) hn2 hc_1000100) rfl (ia_oks_le hn1 rfl) (Nat.le_of_ble_eq_true rfl) (w_J0_coder_7d493_1000100 hn1 hn2 (d + 0) hE k3) (fun h hE => ?_)
  refine z_ishr dJ0_length_8abf5_9 ?_
  have e_ := Option.some.inj hf
  subst e_
  exact z_ireturn dJ0_length_8abf5_10 rfl ⟨h, rfl, rfl, hE⟩
def f_J1_canEncode_9a6ad (v0 : Int32) (S : zS) : Option (Int32 × zS) :=
if v0 < 0 then
some (0, S)
else
if 255 < v0 then
some (0, S)
else
some (1, S)
theorem w_J1_canEncode_9a6ad {L : Nat} {xs : Nat → Int32} {fm : Bool} {D : Nat → Option zD} {h0 : Nat → va_E} {t : Nat × Nat × Nat} (hn1 : 64 ≤ t.1) (hn2 : t.1 ≤ 1000000) (d : Nat) {h : Nat → va_E} {S : zS} (hE : zE D h0 S (h, t)) {v0 : Int32} {R : Int32 × zS} (hf : f_J1_canEncode_9a6ad v0 S = some R) : zC (ia_P0 L xs fm) (d + 1) 901001 [.int v0] (h, t) (zQi D h0 t R) := by
  refine zC_of mt_901001 nn_901001 (Nat.le_of_ble_eq_true rfl) ?_
  refine zW_lv (lv' := [(0, .int v0)]) rfl ?_
  unfold f_J1_canEncode_9a6ad at hf
  refine z_iload_n dJ1_canEncode_9a6ad_0 rfl ?_
  by_cases c1 : v0 < 0
  · have hf := zif_t hf c1
    refine z_if_lt_t (tgt := 15) dJ1_canEncode_9a6ad_1 (by decide) c1 ?_
    refine z_iconst (v := 0) dJ1_canEncode_9a6ad_15 (by decide) ?_
    have e_ := Option.some.inj hf
    subst e_
    exact z_zreturn dJ1_canEncode_9a6ad_16 rfl (by decide) ⟨h, rfl, rfl, hE⟩
  · have hf := zif_f hf c1
    refine z_if_lt_f (tgt := 15) dJ1_canEncode_9a6ad_1 (by decide) c1 ?_
    refine z_iload_n dJ1_canEncode_9a6ad_4 rfl ?_
    refine z_sipush (v := 255) dJ1_canEncode_9a6ad_5 (by decide) ?_
    by_cases c2 : 255 < v0
    · have hf := zif_t hf c2
      refine z_icmp_gt_t (tgt := 15) dJ1_canEncode_9a6ad_8 (by decide) c2 ?_
      refine z_iconst (v := 0) dJ1_canEncode_9a6ad_15 (by decide) ?_
      have e_ := Option.some.inj hf
      subst e_
      exact z_zreturn dJ1_canEncode_9a6ad_16 rfl (by decide) ⟨h, rfl, rfl, hE⟩
    · have hf := zif_f hf c2
      refine z_icmp_gt_f (tgt := 15) dJ1_canEncode_9a6ad_8 (by decide) c2 ?_
      refine z_iconst (v := 1) dJ1_canEncode_9a6ad_11 (by decide) ?_
      refine z_goto (tgt := 16) dJ1_canEncode_9a6ad_12 (by decide) ?_
      have e_ := Option.some.inj hf
      subst e_
      exact z_zreturn dJ1_canEncode_9a6ad_16 rfl (by decide) ⟨h, rfl, rfl, hE⟩
def f_J1_indexOfChar_4cfef_1000200_L7 (ex : Int32 → zS → Option (Int32 × zS)) (i1 : Int32) (i2 : Int32) (i3 : Int32) (i4 : Int32) : Nat → Int32 → zS → Option (Int32 × zS)
  | 0, _, _ => none
  | k + 1, x5, S =>
    if i3 ≤ x5 then
    ex x5 S
    else
    if ia_in x5 3 = true then
    if ¬ (zc_1000200 x5.toNatClampNeg) = i4 then
    zl (x5 + 1) fun (y5 : Int32) =>
    f_J1_indexOfChar_4cfef_1000200_L7 ex i1 i2 i3 i4 k y5 S
    else
    some (x5, S)
    else none
def f_J1_indexOfChar_4cfef_1000200 (v1 : Int32) (v2 : Int32) (v3 : Int32) (S : zS) : Option (Int32 × zS) :=
zl (v1.toInt8.toInt32) fun (y1 : Int32) =>
f_J1_indexOfChar_4cfef_1000200_L7 (fun (q7 : Int32) (S6 : zS) =>
some ((-1), S6)) v1 v2 v3 y1 zN v2 S
theorem w_J1_indexOfChar_4cfef_1000200_L7 {L : Nat} {xs : Nat → Int32} {fm : Bool} {D : Nat → Option zD} {h0 : Nat → va_E} {t : Nat × Nat × Nat} (hn1 : 64 ≤ t.1) (hn2 : t.1 ≤ 1000000) (d : Nat) {ex : Int32 → zS → Option (Int32 × zS)} {i1 : Int32} {i2 : Int32} {i3 : Int32} {i4 : Int32} {R : Int32 × zS} (hex : ∀ (x5 : Int32) (S : zS) (h : Nat → va_E), zE D h0 S (h, t) → ex x5 S = some R → zW (ia_P0 L xs fm) ia_nx (d + 0) 901 false cJ1_indexOfChar_4cfef 6 (some .int) 31 [(0, .ref 1000200), (1, .int i1), (2, .int i2), (3, .int i3), (4, .int i4), (5, .int x5)] [] (h, t) (zQi D h0 t R)) : ∀ (k : Nat) (x5 : Int32) (S : zS) (h : Nat → va_E), zE D h0 S (h, t) → f_J1_indexOfChar_4cfef_1000200_L7 ex i1 i2 i3 i4 k x5 S = some R → zW (ia_P0 L xs fm) ia_nx (d + 0) 901 false cJ1_indexOfChar_4cfef 6 (some .int) 7 [(0, .ref 1000200), (1, .int i1), (2, .int i2), (3, .int i3), (4, .int i4), (5, .int x5)] [] (h, t) (zQi D h0 t R) := by
  intro k
  induction k with
  | zero => intro x5 S h hE hf; cases hf
  | succ k ih =>
    intro x5 S h hE hf
    unfold f_J1_indexOfChar_4cfef_1000200_L7 at hf
    refine z_iload dJ1_indexOfChar_4cfef_7 rfl ?_
    refine z_iload_n dJ1_indexOfChar_4cfef_9 rfl ?_
    by_cases c2 : i3 ≤ x5
    · have hf := zif_t hf c2
      refine z_icmp_ge_t (tgt := 31) dJ1_indexOfChar_4cfef_10 (by decide) c2 ?_
      exact zW.sub (hex x5 S _ hE hf) [0, 1, 2, 3, 4, 5] rfl rfl rfl rfl
    · have hf := zif_f hf c2
      refine z_icmp_ge_f (tgt := 31) dJ1_indexOfChar_4cfef_10 (by decide) c2 ?_
      refine z_aload_n dJ1_indexOfChar_4cfef_13 rfl ?_
      refine z_iload dJ1_indexOfChar_4cfef_14 rfl ?_
      obtain ⟨b3, hf⟩ := zchk hf
      refine z_baloadC dJ1_indexOfChar_4cfef_16 (by decide) hn2 hc_1000200 b3 ?_
      refine z_iload dJ1_indexOfChar_4cfef_17 rfl ?_
      by_cases c4 : ¬ (zc_1000200 x5.toNatClampNeg) = i4
      · have hf := zif_t hf c4
        refine z_icmp_ne_t (tgt := 25) dJ1_indexOfChar_4cfef_19 (by decide) c4 ?_
        obtain ⟨y5, ey5, hf⟩ := zl_some hf
        refine z_iincY (v := 1) (y := y5) (lv' := [(5, .int y5), (0, .ref 1000200), (1, .int i1), (2, .int i2), (3, .int i3), (4, .int i4)]) dJ1_indexOfChar_4cfef_25 rfl (by decide) (by decide) ey5 rfl ?_
        refine z_goto (tgt := 7) dJ1_indexOfChar_4cfef_28 (by decide) ?_
        exact zW.sub (ih y5 S _ hE hf) [1, 2, 3, 4, 5, 0] rfl rfl rfl rfl
      · have hf := zif_f hf c4
        refine z_icmp_ne_f (tgt := 25) dJ1_indexOfChar_4cfef_19 (by decide) c4 ?_
        refine z_iload dJ1_indexOfChar_4cfef_22 rfl ?_
        have e_ := Option.some.inj hf
        subst e_
        exact z_ireturn dJ1_indexOfChar_4cfef_24 rfl ⟨h, rfl, rfl, hE⟩
theorem w_J1_indexOfChar_4cfef_1000200 {L : Nat} {xs : Nat → Int32} {fm : Bool} {D : Nat → Option zD} {h0 : Nat → va_E} {t : Nat × Nat × Nat} (hn1 : 64 ≤ t.1) (hn2 : t.1 ≤ 1000000) (d : Nat) {h : Nat → va_E} {S : zS} (hE : zE D h0 S (h, t)) {v1 : Int32} {v2 : Int32} {v3 : Int32} {R : Int32 × zS} (hf : f_J1_indexOfChar_4cfef_1000200 v1 v2 v3 S = some R) : zC (ia_P0 L xs fm) (d + 1) 901002 [.ref 1000200, .int v1, .int v2, .int v3] (h, t) (zQi D h0 t R) := by
  refine zC_of mt_901002 nn_901002 (Nat.le_of_ble_eq_true rfl) ?_
  refine zW_lv (lv' := [(0, .ref 1000200), (1, .int v1), (2, .int v2), (3, .int v3)]) rfl ?_
  unfold f_J1_indexOfChar_4cfef_1000200 at hf
  refine z_iload_n dJ1_indexOfChar_4cfef_0 rfl ?_
  refine z_i2b dJ1_indexOfChar_4cfef_1 ?_
  obtain ⟨y1, ey1, hf⟩ := zl_some hf
  refine z_topi ey1 ?_
  refine z_istore (lv' := [(4, .int y1), (0, .ref 1000200), (1, .int v1), (2, .int v2), (3, .int v3)]) dJ1_indexOfChar_4cfef_2 (by decide) rfl ?_
  refine z_iload_n dJ1_indexOfChar_4cfef_4 rfl ?_
  refine z_istore (lv' := [(5, .int v2), (4, .int y1), (0, .ref 1000200), (1, .int v1), (2, .int v2), (3, .int v3)]) dJ1_indexOfChar_4cfef_5 (by decide) rfl ?_
  refine zW.sub (w_J1_indexOfChar_4cfef_1000200_L7 hn1 hn2 d (fun q7 S6 h hE hf => ?_) zN v2 S h hE hf) [2, 3, 4, 5, 1, 0] rfl rfl rfl rfl
  try dsimp only at hf
  refine z_iconst (v := (-1)) dJ1_indexOfChar_4cfef_31 (by decide) ?_
  have e_ := Option.some.inj hf
  subst e_
  exact z_ireturn dJ1_indexOfChar_4cfef_32 rfl ⟨h, rfl, rfl, hE⟩
def f_J1_indexOf_4cfef_1000200 (v1 : Int32) (v2 : Int32) (v3 : Int32) (S : zS) : Option (Int32 × zS) :=
zb (f_J1_canEncode_9a6ad v1 S) fun r2 S1 =>
if ¬ r2 = 0 then
zl (if v2 < 0 then 0 else v2) fun (y5 : Int32) =>
zl (if 3 < v3 then 3 else v3) fun (y6 : Int32) =>
if y5 < y6 then
zb (f_J1_indexOfChar_4cfef_1000200 v1 y5 y6 S1) fun r9 S8 =>
some (r9, S8)
else
some ((-1), S1)
else
some ((-1), S1)
theorem w_J1_indexOf_4cfef_1000200 {L : Nat} {xs : Nat → Int32} {fm : Bool} {D : Nat → Option zD} {h0 : Nat → va_E} {t : Nat × Nat × Nat} (hn1 : 64 ≤ t.1) (hn2 : t.1 ≤ 1000000) (d : Nat) {h : Nat → va_E} {S : zS} (hE : zE D h0 S (h, t)) {v1 : Int32} {v2 : Int32} {v3 : Int32} {R : Int32 × zS} (hf : f_J1_indexOf_4cfef_1000200 v1 v2 v3 S = some R) : zC (ia_P0 L xs fm) (d + 2) 901000 [.ref 1000200, .int v1, .int v2, .int v3] (h, t) (zQi D h0 t R) := by
  refine zC_of mt_901000 nn_901000 (Nat.le_of_ble_eq_true rfl) ?_
  refine zW_lv (lv' := [(0, .ref 1000200), (1, .int v1), (2, .int v2), (3, .int v3)]) rfl ?_
  unfold f_J1_indexOf_4cfef_1000200 at hf
  refine z_iload_n dJ1_indexOf_4cfef_0 rfl ?_
  obtain ⟨r2, S1, k3, hf⟩ := zb_some hf
  refine z_callSi dJ1_indexOf_4cfef_1 tM_901_88 (by decide) mt_901001 (Nat.le_of_ble_eq_true rfl) rfl rfl (ia_oks_le hn1 rfl) (Nat.le_of_ble_eq_true rfl) (w_J1_canEncode_9a6ad hn1 hn2 (d + 0) hE k3) (fun h hE => ?_)
  by_cases c4 : ¬ r2 = 0
  · have hf := zif_t hf c4
    refine z_if_ne_t (tgt := 9) dJ1_indexOf_4cfef_4 (by decide) c4 ?_
    refine z_iload_n dJ1_indexOf_4cfef_9 rfl ?_
    refine z_iconst (v := 0) dJ1_indexOf_4cfef_10 (by decide) ?_
    refine z_mmax dJ1_indexOf_4cfef_11 tM_901_92 (Nat.le_of_ble_eq_true rfl) ?_
    obtain ⟨y5, ey5, hf⟩ := zl_some hf
    refine z_topi ey5 ?_
    refine z_istore_n (lv' := [(2, .int y5), (0, .ref 1000200), (1, .int v1), (3, .int v3)]) dJ1_indexOf_4cfef_14 (by decide) rfl ?_
    refine z_iload_n dJ1_indexOf_4cfef_15 rfl ?_
    refine z_aload_n dJ1_indexOf_4cfef_16 rfl ?_
    refine z_alenC (v := 3) dJ1_indexOf_4cfef_17 (by decide) hn2 hc_1000200 (by decide) (by decide) ?_
    refine z_mmin dJ1_indexOf_4cfef_18 tM_901_38 (Nat.le_of_ble_eq_true rfl) ?_
    obtain ⟨y6, ey6, hf⟩ := zl_some hf
    refine z_topi ey6 ?_
    refine z_istore_n (lv' := [(3, .int y6), (2, .int y5), (0, .ref 1000200), (1, .int v1)]) dJ1_indexOf_4cfef_21 (by decide) rfl ?_
    refine z_iload_n dJ1_indexOf_4cfef_22 rfl ?_
    refine z_iload_n dJ1_indexOf_4cfef_23 rfl ?_
    by_cases c7 : y5 < y6
    · have hf := zif_t hf c7
      refine z_icmp_lt_t (tgt := 29) dJ1_indexOf_4cfef_24 (by decide) c7 ?_
      refine z_aload_n dJ1_indexOf_4cfef_29 rfl ?_
      refine z_iload_n dJ1_indexOf_4cfef_30 rfl ?_
      refine z_iload_n dJ1_indexOf_4cfef_31 rfl ?_
      refine z_iload_n dJ1_indexOf_4cfef_32 rfl ?_
      obtain ⟨r9, S8, k10, hf⟩ := zb_some hf
      refine z_callSi dJ1_indexOf_4cfef_33 tM_901_95 (by decide) mt_901002 (Nat.le_of_ble_eq_true rfl) rfl rfl (ia_oks_le hn1 rfl) (Nat.le_of_ble_eq_true rfl) (w_J1_indexOfChar_4cfef_1000200 hn1 hn2 (d + 0) hE k10) (fun h hE => ?_)
      have e_ := Option.some.inj hf
      subst e_
      exact z_ireturn dJ1_indexOf_4cfef_36 rfl ⟨h, rfl, rfl, hE⟩
    · have hf := zif_f hf c7
      refine z_icmp_lt_f (tgt := 29) dJ1_indexOf_4cfef_24 (by decide) c7 ?_
      refine z_iconst (v := (-1)) dJ1_indexOf_4cfef_27 (by decide) ?_
      have e_ := Option.some.inj hf
      subst e_
      exact z_ireturn dJ1_indexOf_4cfef_28 rfl ⟨h, rfl, rfl, hE⟩
  · have hf := zif_f hf c4
    refine z_if_ne_f (tgt := 9) dJ1_indexOf_4cfef_4 (by decide) c4 ?_
    refine z_iconst (v := (-1)) dJ1_indexOf_4cfef_7 (by decide) ?_
    have e_ := Option.some.inj hf
    subst e_
    exact z_ireturn dJ1_indexOf_4cfef_8 rfl ⟨h, rfl, rfl, hE⟩
def f_J0_indexOf_7cf53_1000100 (v1 : Int32) (v2 : Int32) (S : zS) : Option (Int32 × zS) :=
zb (f_J0_isLatin1_aae02_1000100 S) fun r2 S1 =>
if r2 = 0 then
zb (f_J0_length_8abf5_1000100 S1) fun r6 S5 =>
none
else
zb (f_J0_length_8abf5_1000100 S1) fun r9 S8 =>
zb (f_J1_indexOf_4cfef_1000200 v1 v2 r9 S8) fun r12 S11 =>
some (r12, S11)
theorem w_J0_indexOf_7cf53_1000100 {L : Nat} {xs : Nat → Int32} {fm : Bool} {D : Nat → Option zD} {h0 : Nat → va_E} {t : Nat × Nat × Nat} (hn1 : 64 ≤ t.1) (hn2 : t.1 ≤ 1000000) (d : Nat) {h : Nat → va_E} {S : zS} (hE : zE D h0 S (h, t)) {v1 : Int32} {v2 : Int32} {R : Int32 × zS} (hf : f_J0_indexOf_7cf53_1000100 v1 v2 S = some R) : zC (ia_P0 L xs fm) (d + 3) 900001 [.ref 1000100, .int v1, .int v2] (h, t) (zQi D h0 t R) := by
  refine zC_of mt_900001 nn_900001 (Nat.le_of_ble_eq_true rfl) ?_
  refine zW_lv (lv' := [(0, .ref 1000100), (1, .int v1), (2, .int v2)]) rfl ?_
  unfold f_J0_indexOf_7cf53_1000100 at hf
  refine z_aload_n dJ0_indexOf_7cf53_0 rfl ?_
  obtain ⟨r2, S1, k3, hf⟩ := zb_some hf
  refine z_callVi dJ0_indexOf_7cf53_1 tM_900_492 mt_900002 (Nat.le_of_ble_eq_true rfl) rfl rfl (z_recvC (hp := (h, t)) (by decide) hn2 hc_1000100) rfl (ia_oks_le hn1 rfl) (Nat.le_of_ble_eq_true rfl) (w_J0_isLatin1_aae02_1000100 hn1 hn2 (d + 1) hE k3) (fun h hE => ?_)
  by_cases c4 : r2 = 0
  · have hf := zif_t hf c4
    refine z_if_eq_t (tgt := 23) dJ0_indexOf_7cf53_4 (by decide) c4 ?_
    refine z_aload_n dJ0_indexOf_7cf53_23 rfl ?_
    refine z_getCC dJ0_indexOf_7cf53_24 tF_900_9 (by decide) hn2 hc_1000100 rfl ?_
    refine z_iload_n dJ0_indexOf_7cf53_27 rfl ?_
    refine z_iload_n dJ0_indexOf_7cf53_28 rfl ?_
    refine z_aload_n dJ0_indexOf_7cf53_29 rfl ?_
    obtain ⟨r6, S5, k7, hf⟩ := zb_some hf
    refine z_callVi dJ0_indexOf_7cf53_30 tM_900_505 mt_900003 (Nat.le_of_ble_eq_true rfl) rfl rfl (z_recvC (hp := (h, t)) (by decide) hn2 hc_1000100) rfl (ia_oks_le hn1 rfl) (Nat.le_of_ble_eq_true rfl) (w_J0_length_8abf5_1000100 hn1 hn2 (d + 0) hE k7) (fun h hE => ?_)
    cases hf
  · have hf := zif_f hf c4
    refine z_if_eq_f (tgt := 23) dJ0_indexOf_7cf53_4 (by decide) c4 ?_
    refine z_aload_n dJ0_indexOf_7cf53_7 rfl ?_
    refine z_getCC dJ0_indexOf_7cf53_8 tF_900_9 (by decide) hn2 hc_1000100 rfl ?_
    refine z_iload_n dJ0_indexOf_7cf53_11 rfl ?_
    refine z_iload_n dJ0_indexOf_7cf53_12 rfl ?_
    refine z_aload_n dJ0_indexOf_7cf53_13 rfl ?_
    obtain ⟨r9, S8, k10, hf⟩ := zb_some hf
    refine z_callVi dJ0_indexOf_7cf53_14 tM_900_505 mt_900003 (Nat.le_of_ble_eq_true rfl) rfl rfl (z_recvC (hp := (h, t)) (by decide) hn2 hc_1000100) rfl (ia_oks_le hn1 rfl) (Nat.le_of_ble_eq_true rfl) (w_J0_length_8abf5_1000100 hn1 hn2 (d + 0) hE k10) (fun h hE => ?_)
    obtain ⟨r12, S11, k13, hf⟩ := zb_some hf
    refine z_callSi dJ0_indexOf_7cf53_17 tM_900_637 (by decide) mt_901000 (Nat.le_of_ble_eq_true rfl) rfl rfl (ia_oks_le hn1 rfl) (Nat.le_of_ble_eq_true rfl) (w_J1_indexOf_4cfef_1000200 hn1 hn2 (d + 0) hE k13) (fun h hE => ?_)
    refine z_goto (tgt := 36) dJ0_indexOf_7cf53_20 (by decide) ?_
    have e_ := Option.some.inj hf
    subst e_
    exact z_ireturn dJ0_indexOf_7cf53_36 rfl ⟨h, rfl, rfl, hE⟩
def f_J0_indexOf_0f7a4_1000100 (v1 : Int32) (S : zS) : Option (Int32 × zS) :=
zb (f_J0_indexOf_7cf53_1000100 v1 0 S) fun r2 S1 =>
some (r2, S1)
theorem w_J0_indexOf_0f7a4_1000100 {L : Nat} {xs : Nat → Int32} {fm : Bool} {D : Nat → Option zD} {h0 : Nat → va_E} {t : Nat × Nat × Nat} (hn1 : 64 ≤ t.1) (hn2 : t.1 ≤ 1000000) (d : Nat) {h : Nat → va_E} {S : zS} (hE : zE D h0 S (h, t)) {v1 : Int32} {R : Int32 × zS} (hf : f_J0_indexOf_0f7a4_1000100 v1 S = some R) : zC (ia_P0 L xs fm) (d + 4) 900000 [.ref 1000100, .int v1] (h, t) (zQi D h0 t R) := by
  refine zC_of mt_900000 nn_900000 (Nat.le_of_ble_eq_true rfl) ?_
  refine zW_lv (lv' := [(0, .ref 1000100), (1, .int v1)]) rfl ?_
  unfold f_J0_indexOf_0f7a4_1000100 at hf
  refine z_aload_n dJ0_indexOf_0f7a4_0 rfl ?_
  refine z_iload_n dJ0_indexOf_0f7a4_1 rfl ?_
  refine z_iconst (v := 0) dJ0_indexOf_0f7a4_2 (by decide) ?_
  obtain ⟨r2, S1, k3, hf⟩ := zb_some hf
  refine z_callVi dJ0_indexOf_0f7a4_3 tM_900_633 mt_900001 (Nat.le_of_ble_eq_true rfl) rfl rfl (z_recvC (hp := (h, t)) (by decide) hn2 hc_1000100) rfl (ia_oks_le hn1 rfl) (Nat.le_of_ble_eq_true rfl) (w_J0_indexOf_7cf53_1000100 hn1 hn2 (d + 0) hE k3) (fun h hE => ?_)
  have e_ := Option.some.inj hf
  subst e_
  exact z_ireturn dJ0_indexOf_0f7a4_6 rfl ⟨h, rfl, rfl, hE⟩
def f_J0_isLatin1_aae02_1000101  (S : zS) : Option (Int32 × zS) :=
some (1, S)
theorem w_J0_isLatin1_aae02_1000101 {L : Nat} {xs : Nat → Int32} {fm : Bool} {D : Nat → Option zD} {h0 : Nat → va_E} {t : Nat × Nat × Nat} (hn1 : 64 ≤ t.1) (hn2 : t.1 ≤ 1000000) (d : Nat) {h : Nat → va_E} {S : zS} (hE : zE D h0 S (h, t)) {R : Int32 × zS} (hf : f_J0_isLatin1_aae02_1000101  S = some R) : zC (ia_P0 L xs fm) (d + 1) 900002 [.ref 1000101] (h, t) (zQi D h0 t R) := by
  refine zC_of mt_900002 nn_900002 (Nat.le_of_ble_eq_true rfl) ?_
  refine zW_lv (lv' := [(0, .ref 1000101)]) rfl ?_
  unfold f_J0_isLatin1_aae02_1000101 at hf
  refine z_getstatic dJ0_isLatin1_aae02_0 tS_900_38 ?_
  refine z_if_eq_f (tgt := 17) dJ0_isLatin1_aae02_3 (by decide) (by decide) ?_
  refine z_aload_n dJ0_isLatin1_aae02_6 rfl ?_
  refine z_getCC dJ0_isLatin1_aae02_7 tF_900_15 (by decide) hn2 hc_1000101 rfl ?_
  refine z_if_ne_f (tgt := 17) dJ0_isLatin1_aae02_10 (by decide) (by decide) ?_
  refine z_iconst (v := 1) dJ0_isLatin1_aae02_13 (by decide) ?_
  refine z_goto (tgt := 18) dJ0_isLatin1_aae02_14 (by decide) ?_
  have e_ := Option.some.inj hf
  subst e_
  exact z_zreturn dJ0_isLatin1_aae02_18 rfl (by decide) ⟨h, rfl, rfl, hE⟩
def f_J0_coder_7d493_1000101  (S : zS) : Option (Int32 × zS) :=
some (0, S)
theorem w_J0_coder_7d493_1000101 {L : Nat} {xs : Nat → Int32} {fm : Bool} {D : Nat → Option zD} {h0 : Nat → va_E} {t : Nat × Nat × Nat} (hn1 : 64 ≤ t.1) (hn2 : t.1 ≤ 1000000) (d : Nat) {h : Nat → va_E} {S : zS} (hE : zE D h0 S (h, t)) {R : Int32 × zS} (hf : f_J0_coder_7d493_1000101  S = some R) : zC (ia_P0 L xs fm) (d + 1) 900004 [.ref 1000101] (h, t) (zQi D h0 t R) := by
  refine zC_of mt_900004 nn_900004 (Nat.le_of_ble_eq_true rfl) ?_
  refine zW_lv (lv' := [(0, .ref 1000101)]) rfl ?_
  unfold f_J0_coder_7d493_1000101 at hf
  refine z_getstatic dJ0_coder_7d493_0 tS_900_38 ?_
  refine z_if_eq_f (tgt := 13) dJ0_coder_7d493_3 (by decide) (by decide) ?_
  refine z_aload_n dJ0_coder_7d493_6 rfl ?_
  refine z_getCC dJ0_coder_7d493_7 tF_900_15 (by decide) hn2 hc_1000101 rfl ?_
  refine z_goto (tgt := 14) dJ0_coder_7d493_10 (by decide) ?_
  have e_ := Option.some.inj hf
  subst e_
  exact z_breturn dJ0_coder_7d493_14 rfl (by decide) ⟨h, rfl, rfl, hE⟩
def f_J0_length_8abf5_1000101  (S : zS) : Option (Int32 × zS) :=
zb (f_J0_coder_7d493_1000101 S) fun r2 S1 =>
some (6 >>> (r2 &&& 31), S1)
theorem w_J0_length_8abf5_1000101 {L : Nat} {xs : Nat → Int32} {fm : Bool} {D : Nat → Option zD} {h0 : Nat → va_E} {t : Nat × Nat × Nat} (hn1 : 64 ≤ t.1) (hn2 : t.1 ≤ 1000000) (d : Nat) {h : Nat → va_E} {S : zS} (hE : zE D h0 S (h, t)) {R : Int32 × zS} (hf : f_J0_length_8abf5_1000101  S = some R) : zC (ia_P0 L xs fm) (d + 2) 900003 [.ref 1000101] (h, t) (zQi D h0 t R) := by
  refine zC_of mt_900003 nn_900003 (Nat.le_of_ble_eq_true rfl) ?_
  refine zW_lv (lv' := [(0, .ref 1000101)]) rfl ?_
  unfold f_J0_length_8abf5_1000101 at hf
  refine z_aload_n dJ0_length_8abf5_0 rfl ?_
  refine z_getCC dJ0_length_8abf5_1 tF_900_9 (by decide) hn2 hc_1000101 rfl ?_
  refine z_alenC (v := 6) dJ0_length_8abf5_4 (by decide) hn2 hc_1000201 (by decide) (by decide) ?_
  refine z_aload_n dJ0_length_8abf5_5 rfl ?_
  obtain ⟨r2, S1, k3, hf⟩ := zb_some hf
  refine z_callVi dJ0_length_8abf5_6 tM_900_335 mt_900004 (Nat.le_of_ble_eq_true rfl) rfl rfl (z_recvC (hp := (h, t)) (by decide) hn2 hc_1000101) rfl (ia_oks_le hn1 rfl) (Nat.le_of_ble_eq_true rfl) (w_J0_coder_7d493_1000101 hn1 hn2 (d + 0) hE k3) (fun h hE => ?_)
  refine z_ishr dJ0_length_8abf5_9 ?_
  have e_ := Option.some.inj hf
  subst e_
  exact z_ireturn dJ0_length_8abf5_10 rfl ⟨h, rfl, rfl, hE⟩
def f_J1_indexOfChar_4cfef_1000201_L7 (ex : Int32 → zS → Option (Int32 × zS)) (i1 : Int32) (i2 : Int32) (i3 : Int32) (i4 : Int32) : Nat → Int32 → zS → Option (Int32 × zS)
  | 0, _, _ => none
  | k + 1, x5, S =>
    if i3 ≤ x5 then
    ex x5 S
    else
    if ia_in x5 6 = true then
    if ¬ (zc_1000201 x5.toNatClampNeg) = i4 then
    zl (x5 + 1) fun (y5 : Int32) =>
    f_J1_indexOfChar_4cfef_1000201_L7 ex i1 i2 i3 i4 k y5 S
    else
    some (x5, S)
    else none
def f_J1_indexOfChar_4cfef_1000201 (v1 : Int32) (v2 : Int32) (v3 : Int32) (S : zS) : Option (Int32 × zS) :=
zl (v1.toInt8.toInt32) fun (y1 : Int32) =>
f_J1_indexOfChar_4cfef_1000201_L7 (fun (q7 : Int32) (S6 : zS) =>
some ((-1), S6)) v1 v2 v3 y1 zN v2 S
theorem w_J1_indexOfChar_4cfef_1000201_L7 {L : Nat} {xs : Nat → Int32} {fm : Bool} {D : Nat → Option zD} {h0 : Nat → va_E} {t : Nat × Nat × Nat} (hn1 : 64 ≤ t.1) (hn2 : t.1 ≤ 1000000) (d : Nat) {ex : Int32 → zS → Option (Int32 × zS)} {i1 : Int32} {i2 : Int32} {i3 : Int32} {i4 : Int32} {R : Int32 × zS} (hex : ∀ (x5 : Int32) (S : zS) (h : Nat → va_E), zE D h0 S (h, t) → ex x5 S = some R → zW (ia_P0 L xs fm) ia_nx (d + 0) 901 false cJ1_indexOfChar_4cfef 6 (some .int) 31 [(0, .ref 1000201), (1, .int i1), (2, .int i2), (3, .int i3), (4, .int i4), (5, .int x5)] [] (h, t) (zQi D h0 t R)) : ∀ (k : Nat) (x5 : Int32) (S : zS) (h : Nat → va_E), zE D h0 S (h, t) → f_J1_indexOfChar_4cfef_1000201_L7 ex i1 i2 i3 i4 k x5 S = some R → zW (ia_P0 L xs fm) ia_nx (d + 0) 901 false cJ1_indexOfChar_4cfef 6 (some .int) 7 [(0, .ref 1000201), (1, .int i1), (2, .int i2), (3, .int i3), (4, .int i4), (5, .int x5)] [] (h, t) (zQi D h0 t R) := by
  intro k
  induction k with
  | zero => intro x5 S h hE hf; cases hf
  | succ k ih =>
    intro x5 S h hE hf
    unfold f_J1_indexOfChar_4cfef_1000201_L7 at hf
    refine z_iload dJ1_indexOfChar_4cfef_7 rfl ?_
    refine z_iload_n dJ1_indexOfChar_4cfef_9 rfl ?_
    by_cases c2 : i3 ≤ x5
    · have hf := zif_t hf c2
      refine z_icmp_ge_t (tgt := 31) dJ1_indexOfChar_4cfef_10 (by decide) c2 ?_
      exact zW.sub (hex x5 S _ hE hf) [0, 1, 2, 3, 4, 5] rfl rfl rfl rfl
    · have hf := zif_f hf c2
      refine z_icmp_ge_f (tgt := 31) dJ1_indexOfChar_4cfef_10 (by decide) c2 ?_
      refine z_aload_n dJ1_indexOfChar_4cfef_13 rfl ?_
      refine z_iload dJ1_indexOfChar_4cfef_14 rfl ?_
      obtain ⟨b3, hf⟩ := zchk hf
      refine z_baloadC dJ1_indexOfChar_4cfef_16 (by decide) hn2 hc_1000201 b3 ?_
      refine z_iload dJ1_indexOfChar_4cfef_17 rfl ?_
      by_cases c4 : ¬ (zc_1000201 x5.toNatClampNeg) = i4
      · have hf := zif_t hf c4
        refine z_icmp_ne_t (tgt := 25) dJ1_indexOfChar_4cfef_19 (by decide) c4 ?_
        obtain ⟨y5, ey5, hf⟩ := zl_some hf
        refine z_iincY (v := 1) (y := y5) (lv' := [(5, .int y5), (0, .ref 1000201), (1, .int i1), (2, .int i2), (3, .int i3), (4, .int i4)]) dJ1_indexOfChar_4cfef_25 rfl (by decide) (by decide) ey5 rfl ?_
        refine z_goto (tgt := 7) dJ1_indexOfChar_4cfef_28 (by decide) ?_
        exact zW.sub (ih y5 S _ hE hf) [1, 2, 3, 4, 5, 0] rfl rfl rfl rfl
      · have hf := zif_f hf c4
        refine z_icmp_ne_f (tgt := 25) dJ1_indexOfChar_4cfef_19 (by decide) c4 ?_
        refine z_iload dJ1_indexOfChar_4cfef_22 rfl ?_
        have e_ := Option.some.inj hf
        subst e_
        exact z_ireturn dJ1_indexOfChar_4cfef_24 rfl ⟨h, rfl, rfl, hE⟩
theorem w_J1_indexOfChar_4cfef_1000201 {L : Nat} {xs : Nat → Int32} {fm : Bool} {D : Nat → Option zD} {h0 : Nat → va_E} {t : Nat × Nat × Nat} (hn1 : 64 ≤ t.1) (hn2 : t.1 ≤ 1000000) (d : Nat) {h : Nat → va_E} {S : zS} (hE : zE D h0 S (h, t)) {v1 : Int32} {v2 : Int32} {v3 : Int32} {R : Int32 × zS} (hf : f_J1_indexOfChar_4cfef_1000201 v1 v2 v3 S = some R) : zC (ia_P0 L xs fm) (d + 1) 901002 [.ref 1000201, .int v1, .int v2, .int v3] (h, t) (zQi D h0 t R) := by
  refine zC_of mt_901002 nn_901002 (Nat.le_of_ble_eq_true rfl) ?_
  refine zW_lv (lv' := [(0, .ref 1000201), (1, .int v1), (2, .int v2), (3, .int v3)]) rfl ?_
  unfold f_J1_indexOfChar_4cfef_1000201 at hf
  refine z_iload_n dJ1_indexOfChar_4cfef_0 rfl ?_
  refine z_i2b dJ1_indexOfChar_4cfef_1 ?_
  obtain ⟨y1, ey1, hf⟩ := zl_some hf
  refine z_topi ey1 ?_
  refine z_istore (lv' := [(4, .int y1), (0, .ref 1000201), (1, .int v1), (2, .int v2), (3, .int v3)]) dJ1_indexOfChar_4cfef_2 (by decide) rfl ?_
  refine z_iload_n dJ1_indexOfChar_4cfef_4 rfl ?_
  refine z_istore (lv' := [(5, .int v2), (4, .int y1), (0, .ref 1000201), (1, .int v1), (2, .int v2), (3, .int v3)]) dJ1_indexOfChar_4cfef_5 (by decide) rfl ?_
  refine zW.sub (w_J1_indexOfChar_4cfef_1000201_L7 hn1 hn2 d (fun q7 S6 h hE hf => ?_) zN v2 S h hE hf) [2, 3, 4, 5, 1, 0] rfl rfl rfl rfl
  try dsimp only at hf
  refine z_iconst (v := (-1)) dJ1_indexOfChar_4cfef_31 (by decide) ?_
  have e_ := Option.some.inj hf
  subst e_
  exact z_ireturn dJ1_indexOfChar_4cfef_32 rfl ⟨h, rfl, rfl, hE⟩
def f_J1_indexOf_4cfef_1000201 (v1 : Int32) (v2 : Int32) (v3 : Int32) (S : zS) : Option (Int32 × zS) :=
zb (f_J1_canEncode_9a6ad v1 S) fun r2 S1 =>
if ¬ r2 = 0 then
zl (if v2 < 0 then 0 else v2) fun (y5 : Int32) =>
zl (if 6 < v3 then 6 else v3) fun (y6 : Int32) =>
if y5 < y6 then
zb (f_J1_indexOfChar_4cfef_1000201 v1 y5 y6 S1) fun r9 S8 =>
some (r9, S8)
else
some ((-1), S1)
else
some ((-1), S1)
theorem w_J1_indexOf_4cfef_1000201 {L : Nat} {xs : Nat → Int32} {fm : Bool} {D : Nat → Option zD} {h0 : Nat → va_E} {t : Nat × Nat × Nat} (hn1 : 64 ≤ t.1) (hn2 : t.1 ≤ 1000000) (d : Nat) {h : Nat → va_E} {S : zS} (hE : zE D h0 S (h, t)) {v1 : Int32} {v2 : Int32} {v3 : Int32} {R : Int32 × zS} (hf : f_J1_indexOf_4cfef_1000201 v1 v2 v3 S = some R) : zC (ia_P0 L xs fm) (d + 2) 901000 [.ref 1000201, .int v1, .int v2, .int v3] (h, t) (zQi D h0 t R) := by
  refine zC_of mt_901000 nn_901000 (Nat.le_of_ble_eq_true rfl) ?_
  refine zW_lv (lv' := [(0, .ref 1000201), (1, .int v1), (2, .int v2), (3, .int v3)]) rfl ?_
  unfold f_J1_indexOf_4cfef_1000201 at hf
  refine z_iload_n dJ1_indexOf_4cfef_0 rfl ?_
  obtain ⟨r2, S1, k3, hf⟩ := zb_some hf
  refine z_callSi dJ1_indexOf_4cfef_1 tM_901_88 (by decide) mt_901001 (Nat.le_of_ble_eq_true rfl) rfl rfl (ia_oks_le hn1 rfl) (Nat.le_of_ble_eq_true rfl) (w_J1_canEncode_9a6ad hn1 hn2 (d + 0) hE k3) (fun h hE => ?_)
  by_cases c4 : ¬ r2 = 0
  · have hf := zif_t hf c4
    refine z_if_ne_t (tgt := 9) dJ1_indexOf_4cfef_4 (by decide) c4 ?_
    refine z_iload_n dJ1_indexOf_4cfef_9 rfl ?_
    refine z_iconst (v := 0) dJ1_indexOf_4cfef_10 (by decide) ?_
    refine z_mmax dJ1_indexOf_4cfef_11 tM_901_92 (Nat.le_of_ble_eq_true rfl) ?_
    obtain ⟨y5, ey5, hf⟩ := zl_some hf
    refine z_topi ey5 ?_
    refine z_istore_n (lv' := [(2, .int y5), (0, .ref 1000201), (1, .int v1), (3, .int v3)]) dJ1_indexOf_4cfef_14 (by decide) rfl ?_
    refine z_iload_n dJ1_indexOf_4cfef_15 rfl ?_
    refine z_aload_n dJ1_indexOf_4cfef_16 rfl ?_
    refine z_alenC (v := 6) dJ1_indexOf_4cfef_17 (by decide) hn2 hc_1000201 (by decide) (by decide) ?_
    refine z_mmin dJ1_indexOf_4cfef_18 tM_901_38 (Nat.le_of_ble_eq_true rfl) ?_
    obtain ⟨y6, ey6, hf⟩ := zl_some hf
    refine z_topi ey6 ?_
    refine z_istore_n (lv' := [(3, .int y6), (2, .int y5), (0, .ref 1000201), (1, .int v1)]) dJ1_indexOf_4cfef_21 (by decide) rfl ?_
    refine z_iload_n dJ1_indexOf_4cfef_22 rfl ?_
    refine z_iload_n dJ1_indexOf_4cfef_23 rfl ?_
    by_cases c7 : y5 < y6
    · have hf := zif_t hf c7
      refine z_icmp_lt_t (tgt := 29) dJ1_indexOf_4cfef_24 (by decide) c7 ?_
      refine z_aload_n dJ1_indexOf_4cfef_29 rfl ?_
      refine z_iload_n dJ1_indexOf_4cfef_30 rfl ?_
      refine z_iload_n dJ1_indexOf_4cfef_31 rfl ?_
      refine z_iload_n dJ1_indexOf_4cfef_32 rfl ?_
      obtain ⟨r9, S8, k10, hf⟩ := zb_some hf
      refine z_callSi dJ1_indexOf_4cfef_33 tM_901_95 (by decide) mt_901002 (Nat.le_of_ble_eq_true rfl) rfl rfl (ia_oks_le hn1 rfl) (Nat.le_of_ble_eq_true rfl) (w_J1_indexOfChar_4cfef_1000201 hn1 hn2 (d + 0) hE k10) (fun h hE => ?_)
      have e_ := Option.some.inj hf
      subst e_
      exact z_ireturn dJ1_indexOf_4cfef_36 rfl ⟨h, rfl, rfl, hE⟩
    · have hf := zif_f hf c7
      refine z_icmp_lt_f (tgt := 29) dJ1_indexOf_4cfef_24 (by decide) c7 ?_
      refine z_iconst (v := (-1)) dJ1_indexOf_4cfef_27 (by decide) ?_
      have e_ := Option.some.inj hf
      subst e_
      exact z_ireturn dJ1_indexOf_4cfef_28 rfl ⟨h, rfl, rfl, hE⟩
  · have hf := zif_f hf c4
    refine z_if_ne_f (tgt := 9) dJ1_indexOf_4cfef_4 (by decide) c4 ?_
    refine z_iconst (v := (-1)) dJ1_indexOf_4cfef_7 (by decide) ?_
    have e_ := Option.some.inj hf
    subst e_
    exact z_ireturn dJ1_indexOf_4cfef_8 rfl ⟨h, rfl, rfl, hE⟩
def f_J0_indexOf_7cf53_1000101 (v1 : Int32) (v2 : Int32) (S : zS) : Option (Int32 × zS) :=
zb (f_J0_isLatin1_aae02_1000101 S) fun r2 S1 =>
if r2 = 0 then
zb (f_J0_length_8abf5_1000101 S1) fun r6 S5 =>
none
else
zb (f_J0_length_8abf5_1000101 S1) fun r9 S8 =>
zb (f_J1_indexOf_4cfef_1000201 v1 v2 r9 S8) fun r12 S11 =>
some (r12, S11)
theorem w_J0_indexOf_7cf53_1000101 {L : Nat} {xs : Nat → Int32} {fm : Bool} {D : Nat → Option zD} {h0 : Nat → va_E} {t : Nat × Nat × Nat} (hn1 : 64 ≤ t.1) (hn2 : t.1 ≤ 1000000) (d : Nat) {h : Nat → va_E} {S : zS} (hE : zE D h0 S (h, t)) {v1 : Int32} {v2 : Int32} {R : Int32 × zS} (hf : f_J0_indexOf_7cf53_1000101 v1 v2 S = some R) : zC (ia_P0 L xs fm) (d + 3) 900001 [.ref 1000101, .int v1, .int v2] (h, t) (zQi D h0 t R) := by
  refine zC_of mt_900001 nn_900001 (Nat.le_of_ble_eq_true rfl) ?_
  refine zW_lv (lv' := [(0, .ref 1000101), (1, .int v1), (2, .int v2)]) rfl ?_
  unfold f_J0_indexOf_7cf53_1000101 at hf
  refine z_aload_n dJ0_indexOf_7cf53_0 rfl ?_
  obtain ⟨r2, S1, k3, hf⟩ := zb_some hf
  refine z_callVi dJ0_indexOf_7cf53_1 tM_900_492 mt_900002 (Nat.le_of_ble_eq_true rfl) rfl rfl (z_recvC (hp := (h, t)) (by decide) hn2 hc_1000101) rfl (ia_oks_le hn1 rfl) (Nat.le_of_ble_eq_true rfl) (w_J0_isLatin1_aae02_1000101 hn1 hn2 (d + 1) hE k3) (fun h hE => ?_)
  by_cases c4 : r2 = 0
  · have hf := zif_t hf c4
    refine z_if_eq_t (tgt := 23) dJ0_indexOf_7cf53_4 (by decide) c4 ?_
    refine z_aload_n dJ0_indexOf_7cf53_23 rfl ?_
    refine z_getCC dJ0_indexOf_7cf53_24 tF_900_9 (by decide) hn2 hc_1000101 rfl ?_
    refine z_iload_n dJ0_indexOf_7cf53_27 rfl ?_
    refine z_iload_n dJ0_indexOf_7cf53_28 rfl ?_
    refine z_aload_n dJ0_indexOf_7cf53_29 rfl ?_
    obtain ⟨r6, S5, k7, hf⟩ := zb_some hf
    refine z_callVi dJ0_indexOf_7cf53_30 tM_900_505 mt_900003 (Nat.le_of_ble_eq_true rfl) rfl rfl (z_recvC (hp := (h, t)) (by decide) hn2 hc_1000101) rfl (ia_oks_le hn1 rfl) (Nat.le_of_ble_eq_true rfl) (w_J0_length_8abf5_1000101 hn1 hn2 (d + 0) hE k7) (fun h hE => ?_)
    cases hf
  · have hf := zif_f hf c4
    refine z_if_eq_f (tgt := 23) dJ0_indexOf_7cf53_4 (by decide) c4 ?_
    refine z_aload_n dJ0_indexOf_7cf53_7 rfl ?_
    refine z_getCC dJ0_indexOf_7cf53_8 tF_900_9 (by decide) hn2 hc_1000101 rfl ?_
    refine z_iload_n dJ0_indexOf_7cf53_11 rfl ?_
    refine z_iload_n dJ0_indexOf_7cf53_12 rfl ?_
    refine z_aload_n dJ0_indexOf_7cf53_13 rfl ?_
    obtain ⟨r9, S8, k10, hf⟩ := zb_some hf
    refine z_callVi dJ0_indexOf_7cf53_14 tM_900_505 mt_900003 (Nat.le_of_ble_eq_true rfl) rfl rfl (z_recvC (hp := (h, t)) (by decide) hn2 hc_1000101) rfl (ia_oks_le hn1 rfl) (Nat.le_of_ble_eq_true rfl) (w_J0_length_8abf5_1000101 hn1 hn2 (d + 0) hE k10) (fun h hE => ?_)
    obtain ⟨r12, S11, k13, hf⟩ := zb_some hf
    refine z_callSi dJ0_indexOf_7cf53_17 tM_900_637 (by decide) mt_901000 (Nat.le_of_ble_eq_true rfl) rfl rfl (ia_oks_le hn1 rfl) (Nat.le_of_ble_eq_true rfl) (w_J1_indexOf_4cfef_1000201 hn1 hn2 (d + 0) hE k13) (fun h hE => ?_)
    refine z_goto (tgt := 36) dJ0_indexOf_7cf53_20 (by decide) ?_
    have e_ := Option.some.inj hf
    subst e_
    exact z_ireturn dJ0_indexOf_7cf53_36 rfl ⟨h, rfl, rfl, hE⟩
def f_J0_indexOf_0f7a4_1000101 (v1 : Int32) (S : zS) : Option (Int32 × zS) :=
zb (f_J0_indexOf_7cf53_1000101 v1 0 S) fun r2 S1 =>
some (r2, S1)
theorem w_J0_indexOf_0f7a4_1000101 {L : Nat} {xs : Nat → Int32} {fm : Bool} {D : Nat → Option zD} {h0 : Nat → va_E} {t : Nat × Nat × Nat} (hn1 : 64 ≤ t.1) (hn2 : t.1 ≤ 1000000) (d : Nat) {h : Nat → va_E} {S : zS} (hE : zE D h0 S (h, t)) {v1 : Int32} {R : Int32 × zS} (hf : f_J0_indexOf_0f7a4_1000101 v1 S = some R) : zC (ia_P0 L xs fm) (d + 4) 900000 [.ref 1000101, .int v1] (h, t) (zQi D h0 t R) := by
  refine zC_of mt_900000 nn_900000 (Nat.le_of_ble_eq_true rfl) ?_
  refine zW_lv (lv' := [(0, .ref 1000101), (1, .int v1)]) rfl ?_
  unfold f_J0_indexOf_0f7a4_1000101 at hf
  refine z_aload_n dJ0_indexOf_0f7a4_0 rfl ?_
  refine z_iload_n dJ0_indexOf_0f7a4_1 rfl ?_
  refine z_iconst (v := 0) dJ0_indexOf_0f7a4_2 (by decide) ?_
  obtain ⟨r2, S1, k3, hf⟩ := zb_some hf
  refine z_callVi dJ0_indexOf_0f7a4_3 tM_900_633 mt_900001 (Nat.le_of_ble_eq_true rfl) rfl rfl (z_recvC (hp := (h, t)) (by decide) hn2 hc_1000101) rfl (ia_oks_le hn1 rfl) (Nat.le_of_ble_eq_true rfl) (w_J0_indexOf_7cf53_1000101 hn1 hn2 (d + 0) hE k3) (fun h hE => ?_)
  have e_ := Option.some.inj hf
  subst e_
  exact z_ireturn dJ0_indexOf_0f7a4_6 rfl ⟨h, rfl, rfl, hE⟩
def f_J0_isLatin1_aae02_1000102  (S : zS) : Option (Int32 × zS) :=
some (1, S)
theorem w_J0_isLatin1_aae02_1000102 {L : Nat} {xs : Nat → Int32} {fm : Bool} {D : Nat → Option zD} {h0 : Nat → va_E} {t : Nat × Nat × Nat} (hn1 : 64 ≤ t.1) (hn2 : t.1 ≤ 1000000) (d : Nat) {h : Nat → va_E} {S : zS} (hE : zE D h0 S (h, t)) {R : Int32 × zS} (hf : f_J0_isLatin1_aae02_1000102  S = some R) : zC (ia_P0 L xs fm) (d + 1) 900002 [.ref 1000102] (h, t) (zQi D h0 t R) := by
  refine zC_of mt_900002 nn_900002 (Nat.le_of_ble_eq_true rfl) ?_
  refine zW_lv (lv' := [(0, .ref 1000102)]) rfl ?_
  unfold f_J0_isLatin1_aae02_1000102 at hf
  refine z_getstatic dJ0_isLatin1_aae02_0 tS_900_38 ?_
  refine z_if_eq_f (tgt := 17) dJ0_isLatin1_aae02_3 (by decide) (by decide) ?_
  refine z_aload_n dJ0_isLatin1_aae02_6 rfl ?_
  refine z_getCC dJ0_isLatin1_aae02_7 tF_900_15 (by decide) hn2 hc_1000102 rfl ?_
  refine z_if_ne_f (tgt := 17) dJ0_isLatin1_aae02_10 (by decide) (by decide) ?_
  refine z_iconst (v := 1) dJ0_isLatin1_aae02_13 (by decide) ?_
  refine z_goto (tgt := 18) dJ0_isLatin1_aae02_14 (by decide) ?_
  have e_ := Option.some.inj hf
  subst e_
  exact z_zreturn dJ0_isLatin1_aae02_18 rfl (by decide) ⟨h, rfl, rfl, hE⟩
def f_J0_coder_7d493_1000102  (S : zS) : Option (Int32 × zS) :=
some (0, S)
theorem w_J0_coder_7d493_1000102 {L : Nat} {xs : Nat → Int32} {fm : Bool} {D : Nat → Option zD} {h0 : Nat → va_E} {t : Nat × Nat × Nat} (hn1 : 64 ≤ t.1) (hn2 : t.1 ≤ 1000000) (d : Nat) {h : Nat → va_E} {S : zS} (hE : zE D h0 S (h, t)) {R : Int32 × zS} (hf : f_J0_coder_7d493_1000102  S = some R) : zC (ia_P0 L xs fm) (d + 1) 900004 [.ref 1000102] (h, t) (zQi D h0 t R) := by
  refine zC_of mt_900004 nn_900004 (Nat.le_of_ble_eq_true rfl) ?_
  refine zW_lv (lv' := [(0, .ref 1000102)]) rfl ?_
  unfold f_J0_coder_7d493_1000102 at hf
  refine z_getstatic dJ0_coder_7d493_0 tS_900_38 ?_
  refine z_if_eq_f (tgt := 13) dJ0_coder_7d493_3 (by decide) (by decide) ?_
  refine z_aload_n dJ0_coder_7d493_6 rfl ?_
  refine z_getCC dJ0_coder_7d493_7 tF_900_15 (by decide) hn2 hc_1000102 rfl ?_
  refine z_goto (tgt := 14) dJ0_coder_7d493_10 (by decide) ?_
  have e_ := Option.some.inj hf
  subst e_
  exact z_breturn dJ0_coder_7d493_14 rfl (by decide) ⟨h, rfl, rfl, hE⟩
def f_J0_length_8abf5_1000102  (S : zS) : Option (Int32 × zS) :=
zb (f_J0_coder_7d493_1000102 S) fun r2 S1 =>
some (5 >>> (r2 &&& 31), S1)
theorem w_J0_length_8abf5_1000102 {L : Nat} {xs : Nat → Int32} {fm : Bool} {D : Nat → Option zD} {h0 : Nat → va_E} {t : Nat × Nat × Nat} (hn1 : 64 ≤ t.1) (hn2 : t.1 ≤ 1000000) (d : Nat) {h : Nat → va_E} {S : zS} (hE : zE D h0 S (h, t)) {R : Int32 × zS} (hf : f_J0_length_8abf5_1000102  S = some R) : zC (ia_P0 L xs fm) (d + 2) 900003 [.ref 1000102] (h, t) (zQi D h0 t R) := by
  refine zC_of mt_900003 nn_900003 (Nat.le_of_ble_eq_true rfl) ?_
  refine zW_lv (lv' := [(0, .ref 1000102)]) rfl ?_
  unfold f_J0_length_8abf5_1000102 at hf
  refine z_aload_n dJ0_length_8abf5_0 rfl ?_
  refine z_getCC dJ0_length_8abf5_1 tF_900_9 (by decide) hn2 hc_1000102 rfl ?_
  refine z_alenC (v := 5) dJ0_length_8abf5_4 (by decide) hn2 hc_1000202 (by decide) (by decide) ?_
  refine z_aload_n dJ0_length_8abf5_5 rfl ?_
  obtain ⟨r2, S1, k3, hf⟩ := zb_some hf
  refine z_callVi dJ0_length_8abf5_6 tM_900_335 mt_900004 (Nat.le_of_ble_eq_true rfl) rfl rfl (z_recvC (hp := (h, t)) (by decide) hn2 hc_1000102) rfl (ia_oks_le hn1 rfl) (Nat.le_of_ble_eq_true rfl) (w_J0_coder_7d493_1000102 hn1 hn2 (d + 0) hE k3) (fun h hE => ?_)
  refine z_ishr dJ0_length_8abf5_9 ?_
  have e_ := Option.some.inj hf
  subst e_
  exact z_ireturn dJ0_length_8abf5_10 rfl ⟨h, rfl, rfl, hE⟩
def f_J1_indexOfChar_4cfef_1000202_L7 (ex : Int32 → zS → Option (Int32 × zS)) (i1 : Int32) (i2 : Int32) (i3 : Int32) (i4 : Int32) : Nat → Int32 → zS → Option (Int32 × zS)
  | 0, _, _ => none
  | k + 1, x5, S =>
    if i3 ≤ x5 then
    ex x5 S
    else
    if ia_in x5 5 = true then
    if ¬ (zc_1000202 x5.toNatClampNeg) = i4 then
    zl (x5 + 1) fun (y5 : Int32) =>
    f_J1_indexOfChar_4cfef_1000202_L7 ex i1 i2 i3 i4 k y5 S
    else
    some (x5, S)
    else none
def f_J1_indexOfChar_4cfef_1000202 (v1 : Int32) (v2 : Int32) (v3 : Int32) (S : zS) : Option (Int32 × zS) :=
zl (v1.toInt8.toInt32) fun (y1 : Int32) =>
f_J1_indexOfChar_4cfef_1000202_L7 (fun (q7 : Int32) (S6 : zS) =>
some ((-1), S6)) v1 v2 v3 y1 zN v2 S
theorem w_J1_indexOfChar_4cfef_1000202_L7 {L : Nat} {xs : Nat → Int32} {fm : Bool} {D : Nat → Option zD} {h0 : Nat → va_E} {t : Nat × Nat × Nat} (hn1 : 64 ≤ t.1) (hn2 : t.1 ≤ 1000000) (d : Nat) {ex : Int32 → zS → Option (Int32 × zS)} {i1 : Int32} {i2 : Int32} {i3 : Int32} {i4 : Int32} {R : Int32 × zS} (hex : ∀ (x5 : Int32) (S : zS) (h : Nat → va_E), zE D h0 S (h, t) → ex x5 S = some R → zW (ia_P0 L xs fm) ia_nx (d + 0) 901 false cJ1_indexOfChar_4cfef 6 (some .int) 31 [(0, .ref 1000202), (1, .int i1), (2, .int i2), (3, .int i3), (4, .int i4), (5, .int x5)] [] (h, t) (zQi D h0 t R)) : ∀ (k : Nat) (x5 : Int32) (S : zS) (h : Nat → va_E), zE D h0 S (h, t) → f_J1_indexOfChar_4cfef_1000202_L7 ex i1 i2 i3 i4 k x5 S = some R → zW (ia_P0 L xs fm) ia_nx (d + 0) 901 false cJ1_indexOfChar_4cfef 6 (some .int) 7 [(0, .ref 1000202), (1, .int i1), (2, .int i2), (3, .int i3), (4, .int i4), (5, .int x5)] [] (h, t) (zQi D h0 t R) := by
  intro k
  induction k with
  | zero => intro x5 S h hE hf; cases hf
  | succ k ih =>
    intro x5 S h hE hf
    unfold f_J1_indexOfChar_4cfef_1000202_L7 at hf
    refine z_iload dJ1_indexOfChar_4cfef_7 rfl ?_
    refine z_iload_n dJ1_indexOfChar_4cfef_9 rfl ?_
    by_cases c2 : i3 ≤ x5
    · have hf := zif_t hf c2
      refine z_icmp_ge_t (tgt := 31) dJ1_indexOfChar_4cfef_10 (by decide) c2 ?_
      exact zW.sub (hex x5 S _ hE hf) [0, 1, 2, 3, 4, 5] rfl rfl rfl rfl
    · have hf := zif_f hf c2
      refine z_icmp_ge_f (tgt := 31) dJ1_indexOfChar_4cfef_10 (by decide) c2 ?_
      refine z_aload_n dJ1_indexOfChar_4cfef_13 rfl ?_
      refine z_iload dJ1_indexOfChar_4cfef_14 rfl ?_
      obtain ⟨b3, hf⟩ := zchk hf
      refine z_baloadC dJ1_indexOfChar_4cfef_16 (by decide) hn2 hc_1000202 b3 ?_
      refine z_iload dJ1_indexOfChar_4cfef_17 rfl ?_
      by_cases c4 : ¬ (zc_1000202 x5.toNatClampNeg) = i4
      · have hf := zif_t hf c4
        refine z_icmp_ne_t (tgt := 25) dJ1_indexOfChar_4cfef_19 (by decide) c4 ?_
        obtain ⟨y5, ey5, hf⟩ := zl_some hf
        refine z_iincY (v := 1) (y := y5) (lv' := [(5, .int y5), (0, .ref 1000202), (1, .int i1), (2, .int i2), (3, .int i3), (4, .int i4)]) dJ1_indexOfChar_4cfef_25 rfl (by decide) (by decide) ey5 rfl ?_
        refine z_goto (tgt := 7) dJ1_indexOfChar_4cfef_28 (by decide) ?_
        exact zW.sub (ih y5 S _ hE hf) [1, 2, 3, 4, 5, 0] rfl rfl rfl rfl
      · have hf := zif_f hf c4
        refine z_icmp_ne_f (tgt := 25) dJ1_indexOfChar_4cfef_19 (by decide) c4 ?_
        refine z_iload dJ1_indexOfChar_4cfef_22 rfl ?_
        have e_ := Option.some.inj hf
        subst e_
        exact z_ireturn dJ1_indexOfChar_4cfef_24 rfl ⟨h, rfl, rfl, hE⟩
theorem w_J1_indexOfChar_4cfef_1000202 {L : Nat} {xs : Nat → Int32} {fm : Bool} {D : Nat → Option zD} {h0 : Nat → va_E} {t : Nat × Nat × Nat} (hn1 : 64 ≤ t.1) (hn2 : t.1 ≤ 1000000) (d : Nat) {h : Nat → va_E} {S : zS} (hE : zE D h0 S (h, t)) {v1 : Int32} {v2 : Int32} {v3 : Int32} {R : Int32 × zS} (hf : f_J1_indexOfChar_4cfef_1000202 v1 v2 v3 S = some R) : zC (ia_P0 L xs fm) (d + 1) 901002 [.ref 1000202, .int v1, .int v2, .int v3] (h, t) (zQi D h0 t R) := by
  refine zC_of mt_901002 nn_901002 (Nat.le_of_ble_eq_true rfl) ?_
  refine zW_lv (lv' := [(0, .ref 1000202), (1, .int v1), (2, .int v2), (3, .int v3)]) rfl ?_
  unfold f_J1_indexOfChar_4cfef_1000202 at hf
  refine z_iload_n dJ1_indexOfChar_4cfef_0 rfl ?_
  refine z_i2b dJ1_indexOfChar_4cfef_1 ?_
  obtain ⟨y1, ey1, hf⟩ := zl_some hf
  refine z_topi ey1 ?_
  refine z_istore (lv' := [(4, .int y1), (0, .ref 1000202), (1, .int v1), (2, .int v2), (3, .int v3)]) dJ1_indexOfChar_4cfef_2 (by decide) rfl ?_
  refine z_iload_n dJ1_indexOfChar_4cfef_4 rfl ?_
  refine z_istore (lv' := [(5, .int v2), (4, .int y1), (0, .ref 1000202), (1, .int v1), (2, .int v2), (3, .int v3)]) dJ1_indexOfChar_4cfef_5 (by decide) rfl ?_
  refine zW.sub (w_J1_indexOfChar_4cfef_1000202_L7 hn1 hn2 d (fun q7 S6 h hE hf => ?_) zN v2 S h hE hf) [2, 3, 4, 5, 1, 0] rfl rfl rfl rfl
  try dsimp only at hf
  refine z_iconst (v := (-1)) dJ1_indexOfChar_4cfef_31 (by decide) ?_
  have e_ := Option.some.inj hf
  subst e_
  exact z_ireturn dJ1_indexOfChar_4cfef_32 rfl ⟨h, rfl, rfl, hE⟩
def f_J1_indexOf_4cfef_1000202 (v1 : Int32) (v2 : Int32) (v3 : Int32) (S : zS) : Option (Int32 × zS) :=
zb (f_J1_canEncode_9a6ad v1 S) fun r2 S1 =>
if ¬ r2 = 0 then
zl (if v2 < 0 then 0 else v2) fun (y5 : Int32) =>
zl (if 5 < v3 then 5 else v3) fun (y6 : Int32) =>
if y5 < y6 then
zb (f_J1_indexOfChar_4cfef_1000202 v1 y5 y6 S1) fun r9 S8 =>
some (r9, S8)
else
some ((-1), S1)
else
some ((-1), S1)
theorem w_J1_indexOf_4cfef_1000202 {L : Nat} {xs : Nat → Int32} {fm : Bool} {D : Nat → Option zD} {h0 : Nat → va_E} {t : Nat × Nat × Nat} (hn1 : 64 ≤ t.1) (hn2 : t.1 ≤ 1000000) (d : Nat) {h : Nat → va_E} {S : zS} (hE : zE D h0 S (h, t)) {v1 : Int32} {v2 : Int32} {v3 : Int32} {R : Int32 × zS} (hf : f_J1_indexOf_4cfef_1000202 v1 v2 v3 S = some R) : zC (ia_P0 L xs fm) (d + 2) 901000 [.ref 1000202, .int v1, .int v2, .int v3] (h, t) (zQi D h0 t R) := by
  refine zC_of mt_901000 nn_901000 (Nat.le_of_ble_eq_true rfl) ?_
  refine zW_lv (lv' := [(0, .ref 1000202), (1, .int v1), (2, .int v2), (3, .int v3)]) rfl ?_
  unfold f_J1_indexOf_4cfef_1000202 at hf
  refine z_iload_n dJ1_indexOf_4cfef_0 rfl ?_
  obtain ⟨r2, S1, k3, hf⟩ := zb_some hf
  refine z_callSi dJ1_indexOf_4cfef_1 tM_901_88 (by decide) mt_901001 (Nat.le_of_ble_eq_true rfl) rfl rfl (ia_oks_le hn1 rfl) (Nat.le_of_ble_eq_true rfl) (w_J1_canEncode_9a6ad hn1 hn2 (d + 0) hE k3) (fun h hE => ?_)
  by_cases c4 : ¬ r2 = 0
  · have hf := zif_t hf c4
    refine z_if_ne_t (tgt := 9) dJ1_indexOf_4cfef_4 (by decide) c4 ?_
    refine z_iload_n dJ1_indexOf_4cfef_9 rfl ?_
    refine z_iconst (v := 0) dJ1_indexOf_4cfef_10 (by decide) ?_
    refine z_mmax dJ1_indexOf_4cfef_11 tM_901_92 (Nat.le_of_ble_eq_true rfl) ?_
    obtain ⟨y5, ey5, hf⟩ := zl_some hf
    refine z_topi ey5 ?_
    refine z_istore_n (lv' := [(2, .int y5), (0, .ref 1000202), (1, .int v1), (3, .int v3)]) dJ1_indexOf_4cfef_14 (by decide) rfl ?_
    refine z_iload_n dJ1_indexOf_4cfef_15 rfl ?_
    refine z_aload_n dJ1_indexOf_4cfef_16 rfl ?_
    refine z_alenC (v := 5) dJ1_indexOf_4cfef_17 (by decide) hn2 hc_1000202 (by decide) (by decide) ?_
    refine z_mmin dJ1_indexOf_4cfef_18 tM_901_38 (Nat.le_of_ble_eq_true rfl) ?_
    obtain ⟨y6, ey6, hf⟩ := zl_some hf
    refine z_topi ey6 ?_
    refine z_istore_n (lv' := [(3, .int y6), (2, .int y5), (0, .ref 1000202), (1, .int v1)]) dJ1_indexOf_4cfef_21 (by decide) rfl ?_
    refine z_iload_n dJ1_indexOf_4cfef_22 rfl ?_
    refine z_iload_n dJ1_indexOf_4cfef_23 rfl ?_
    by_cases c7 : y5 < y6
    · have hf := zif_t hf c7
      refine z_icmp_lt_t (tgt := 29) dJ1_indexOf_4cfef_24 (by decide) c7 ?_
      refine z_aload_n dJ1_indexOf_4cfef_29 rfl ?_
      refine z_iload_n dJ1_indexOf_4cfef_30 rfl ?_
      refine z_iload_n dJ1_indexOf_4cfef_31 rfl ?_
      refine z_iload_n dJ1_indexOf_4cfef_32 rfl ?_
      obtain ⟨r9, S8, k10, hf⟩ := zb_some hf
      refine z_callSi dJ1_indexOf_4cfef_33 tM_901_95 (by decide) mt_901002 (Nat.le_of_ble_eq_true rfl) rfl rfl (ia_oks_le hn1 rfl) (Nat.le_of_ble_eq_true rfl) (w_J1_indexOfChar_4cfef_1000202 hn1 hn2 (d + 0) hE k10) (fun h hE => ?_)
      have e_ := Option.some.inj hf
      subst e_
      exact z_ireturn dJ1_indexOf_4cfef_36 rfl ⟨h, rfl, rfl, hE⟩
    · have hf := zif_f hf c7
      refine z_icmp_lt_f (tgt := 29) dJ1_indexOf_4cfef_24 (by decide) c7 ?_
      refine z_iconst (v := (-1)) dJ1_indexOf_4cfef_27 (by decide) ?_
      have e_ := Option.some.inj hf
      subst e_
      exact z_ireturn dJ1_indexOf_4cfef_28 rfl ⟨h, rfl, rfl, hE⟩
  · have hf := zif_f hf c4
    refine z_if_ne_f (tgt := 9) dJ1_indexOf_4cfef_4 (by decide) c4 ?_
    refine z_iconst (v := (-1)) dJ1_indexOf_4cfef_7 (by decide) ?_
    have e_ := Option.some.inj hf
    subst e_
    exact z_ireturn dJ1_indexOf_4cfef_8 rfl ⟨h, rfl, rfl, hE⟩
def f_J0_indexOf_7cf53_1000102 (v1 : Int32) (v2 : Int32) (S : zS) : Option (Int32 × zS) :=
zb (f_J0_isLatin1_aae02_1000102 S) fun r2 S1 =>
if r2 = 0 then
zb (f_J0_length_8abf5_1000102 S1) fun r6 S5 =>
none
else
zb (f_J0_length_8abf5_1000102 S1) fun r9 S8 =>
zb (f_J1_indexOf_4cfef_1000202 v1 v2 r9 S8) fun r12 S11 =>
some (r12, S11)
theorem w_J0_indexOf_7cf53_1000102 {L : Nat} {xs : Nat → Int32} {fm : Bool} {D : Nat → Option zD} {h0 : Nat → va_E} {t : Nat × Nat × Nat} (hn1 : 64 ≤ t.1) (hn2 : t.1 ≤ 1000000) (d : Nat) {h : Nat → va_E} {S : zS} (hE : zE D h0 S (h, t)) {v1 : Int32} {v2 : Int32} {R : Int32 × zS} (hf : f_J0_indexOf_7cf53_1000102 v1 v2 S = some R) : zC (ia_P0 L xs fm) (d + 3) 900001 [.ref 1000102, .int v1, .int v2] (h, t) (zQi D h0 t R) := by
  refine zC_of mt_900001 nn_900001 (Nat.le_of_ble_eq_true rfl) ?_
  refine zW_lv (lv' := [(0, .ref 1000102), (1, .int v1), (2, .int v2)]) rfl ?_
  unfold f_J0_indexOf_7cf53_1000102 at hf
  refine z_aload_n dJ0_indexOf_7cf53_0 rfl ?_
  obtain ⟨r2, S1, k3, hf⟩ := zb_some hf
  refine z_callVi dJ0_indexOf_7cf53_1 tM_900_492 mt_900002 (Nat.le_of_ble_eq_true rfl) rfl rfl (z_recvC (hp := (h, t)) (by decide) hn2 hc_1000102) rfl (ia_oks_le hn1 rfl) (Nat.le_of_ble_eq_true rfl) (w_J0_isLatin1_aae02_1000102 hn1 hn2 (d + 1) hE k3) (fun h hE => ?_)
  by_cases c4 : r2 = 0
  · have hf := zif_t hf c4
    refine z_if_eq_t (tgt := 23) dJ0_indexOf_7cf53_4 (by decide) c4 ?_
    refine z_aload_n dJ0_indexOf_7cf53_23 rfl ?_
    refine z_getCC dJ0_indexOf_7cf53_24 tF_900_9 (by decide) hn2 hc_1000102 rfl ?_
    refine z_iload_n dJ0_indexOf_7cf53_27 rfl ?_
    refine z_iload_n dJ0_indexOf_7cf53_28 rfl ?_
    refine z_aload_n dJ0_indexOf_7cf53_29 rfl ?_
    obtain ⟨r6, S5, k7, hf⟩ := zb_some hf
    refine z_callVi dJ0_indexOf_7cf53_30 tM_900_505 mt_900003 (Nat.le_of_ble_eq_true rfl) rfl rfl (z_recvC (hp := (h, t)) (by decide) hn2 hc_1000102) rfl (ia_oks_le hn1 rfl) (Nat.le_of_ble_eq_true rfl) (w_J0_length_8abf5_1000102 hn1 hn2 (d + 0) hE k7) (fun h hE => ?_)
    cases hf
  · have hf := zif_f hf c4
    refine z_if_eq_f (tgt := 23) dJ0_indexOf_7cf53_4 (by decide) c4 ?_
    refine z_aload_n dJ0_indexOf_7cf53_7 rfl ?_
    refine z_getCC dJ0_indexOf_7cf53_8 tF_900_9 (by decide) hn2 hc_1000102 rfl ?_
    refine z_iload_n dJ0_indexOf_7cf53_11 rfl ?_
    refine z_iload_n dJ0_indexOf_7cf53_12 rfl ?_
    refine z_aload_n dJ0_indexOf_7cf53_13 rfl ?_
    obtain ⟨r9, S8, k10, hf⟩ := zb_some hf
    refine z_callVi dJ0_indexOf_7cf53_14 tM_900_505 mt_900003 (Nat.le_of_ble_eq_true rfl) rfl rfl (z_recvC (hp := (h, t)) (by decide) hn2 hc_1000102) rfl (ia_oks_le hn1 rfl) (Nat.le_of_ble_eq_true rfl) (w_J0_length_8abf5_1000102 hn1 hn2 (d + 0) hE k10) (fun h hE => ?_)
    obtain ⟨r12, S11, k13, hf⟩ := zb_some hf
    refine z_callSi dJ0_indexOf_7cf53_17 tM_900_637 (by decide) mt_901000 (Nat.le_of_ble_eq_true rfl) rfl rfl (ia_oks_le hn1 rfl) (Nat.le_of_ble_eq_true rfl) (w_J1_indexOf_4cfef_1000202 hn1 hn2 (d + 0) hE k13) (fun h hE => ?_)
    refine z_goto (tgt := 36) dJ0_indexOf_7cf53_20 (by decide) ?_
    have e_ := Option.some.inj hf
    subst e_
    exact z_ireturn dJ0_indexOf_7cf53_36 rfl ⟨h, rfl, rfl, hE⟩
def f_J0_indexOf_0f7a4_1000102 (v1 : Int32) (S : zS) : Option (Int32 × zS) :=
zb (f_J0_indexOf_7cf53_1000102 v1 0 S) fun r2 S1 =>
some (r2, S1)
theorem w_J0_indexOf_0f7a4_1000102 {L : Nat} {xs : Nat → Int32} {fm : Bool} {D : Nat → Option zD} {h0 : Nat → va_E} {t : Nat × Nat × Nat} (hn1 : 64 ≤ t.1) (hn2 : t.1 ≤ 1000000) (d : Nat) {h : Nat → va_E} {S : zS} (hE : zE D h0 S (h, t)) {v1 : Int32} {R : Int32 × zS} (hf : f_J0_indexOf_0f7a4_1000102 v1 S = some R) : zC (ia_P0 L xs fm) (d + 4) 900000 [.ref 1000102, .int v1] (h, t) (zQi D h0 t R) := by
  refine zC_of mt_900000 nn_900000 (Nat.le_of_ble_eq_true rfl) ?_
  refine zW_lv (lv' := [(0, .ref 1000102), (1, .int v1)]) rfl ?_
  unfold f_J0_indexOf_0f7a4_1000102 at hf
  refine z_aload_n dJ0_indexOf_0f7a4_0 rfl ?_
  refine z_iload_n dJ0_indexOf_0f7a4_1 rfl ?_
  refine z_iconst (v := 0) dJ0_indexOf_0f7a4_2 (by decide) ?_
  obtain ⟨r2, S1, k3, hf⟩ := zb_some hf
  refine z_callVi dJ0_indexOf_0f7a4_3 tM_900_633 mt_900001 (Nat.le_of_ble_eq_true rfl) rfl rfl (z_recvC (hp := (h, t)) (by decide) hn2 hc_1000102) rfl (ia_oks_le hn1 rfl) (Nat.le_of_ble_eq_true rfl) (w_J0_indexOf_7cf53_1000102 hn1 hn2 (d + 0) hE k3) (fun h hE => ?_)
  have e_ := Option.some.inj hf
  subst e_
  exact z_ireturn dJ0_indexOf_0f7a4_6 rfl ⟨h, rfl, rfl, hE⟩
def f_J0_isLatin1_aae02_1000103  (S : zS) : Option (Int32 × zS) :=
some (1, S)
theorem w_J0_isLatin1_aae02_1000103 {L : Nat} {xs : Nat → Int32} {fm : Bool} {D : Nat → Option zD} {h0 : Nat → va_E} {t : Nat × Nat × Nat} (hn1 : 64 ≤ t.1) (hn2 : t.1 ≤ 1000000) (d : Nat) {h : Nat → va_E} {S : zS} (hE : zE D h0 S (h, t)) {R : Int32 × zS} (hf : f_J0_isLatin1_aae02_1000103  S = some R) : zC (ia_P0 L xs fm) (d + 1) 900002 [.ref 1000103] (h, t) (zQi D h0 t R) := by
  refine zC_of mt_900002 nn_900002 (Nat.le_of_ble_eq_true rfl) ?_
  refine zW_lv (lv' := [(0, .ref 1000103)]) rfl ?_
  unfold f_J0_isLatin1_aae02_1000103 at hf
  refine z_getstatic dJ0_isLatin1_aae02_0 tS_900_38 ?_
  refine z_if_eq_f (tgt := 17) dJ0_isLatin1_aae02_3 (by decide) (by decide) ?_
  refine z_aload_n dJ0_isLatin1_aae02_6 rfl ?_
  refine z_getCC dJ0_isLatin1_aae02_7 tF_900_15 (by decide) hn2 hc_1000103 rfl ?_
  refine z_if_ne_f (tgt := 17) dJ0_isLatin1_aae02_10 (by decide) (by decide) ?_
  refine z_iconst (v := 1) dJ0_isLatin1_aae02_13 (by decide) ?_
  refine z_goto (tgt := 18) dJ0_isLatin1_aae02_14 (by decide) ?_
  have e_ := Option.some.inj hf
  subst e_
  exact z_zreturn dJ0_isLatin1_aae02_18 rfl (by decide) ⟨h, rfl, rfl, hE⟩
def f_J0_coder_7d493_1000103  (S : zS) : Option (Int32 × zS) :=
some (0, S)
theorem w_J0_coder_7d493_1000103 {L : Nat} {xs : Nat → Int32} {fm : Bool} {D : Nat → Option zD} {h0 : Nat → va_E} {t : Nat × Nat × Nat} (hn1 : 64 ≤ t.1) (hn2 : t.1 ≤ 1000000) (d : Nat) {h : Nat → va_E} {S : zS} (hE : zE D h0 S (h, t)) {R : Int32 × zS} (hf : f_J0_coder_7d493_1000103  S = some R) : zC (ia_P0 L xs fm) (d + 1) 900004 [.ref 1000103] (h, t) (zQi D h0 t R) := by
  refine zC_of mt_900004 nn_900004 (Nat.le_of_ble_eq_true rfl) ?_
  refine zW_lv (lv' := [(0, .ref 1000103)]) rfl ?_
  unfold f_J0_coder_7d493_1000103 at hf
  refine z_getstatic dJ0_coder_7d493_0 tS_900_38 ?_
  refine z_if_eq_f (tgt := 13) dJ0_coder_7d493_3 (by decide) (by decide) ?_
  refine z_aload_n dJ0_coder_7d493_6 rfl ?_
  refine z_getCC dJ0_coder_7d493_7 tF_900_15 (by decide) hn2 hc_1000103 rfl ?_
  refine z_goto (tgt := 14) dJ0_coder_7d493_10 (by decide) ?_
  have e_ := Option.some.inj hf
  subst e_
  exact z_breturn dJ0_coder_7d493_14 rfl (by decide) ⟨h, rfl, rfl, hE⟩
def f_J0_length_8abf5_1000103  (S : zS) : Option (Int32 × zS) :=
zb (f_J0_coder_7d493_1000103 S) fun r2 S1 =>
some (2 >>> (r2 &&& 31), S1)
theorem w_J0_length_8abf5_1000103 {L : Nat} {xs : Nat → Int32} {fm : Bool} {D : Nat → Option zD} {h0 : Nat → va_E} {t : Nat × Nat × Nat} (hn1 : 64 ≤ t.1) (hn2 : t.1 ≤ 1000000) (d : Nat) {h : Nat → va_E} {S : zS} (hE : zE D h0 S (h, t)) {R : Int32 × zS} (hf : f_J0_length_8abf5_1000103  S = some R) : zC (ia_P0 L xs fm) (d + 2) 900003 [.ref 1000103] (h, t) (zQi D h0 t R) := by
  refine zC_of mt_900003 nn_900003 (Nat.le_of_ble_eq_true rfl) ?_
  refine zW_lv (lv' := [(0, .ref 1000103)]) rfl ?_
  unfold f_J0_length_8abf5_1000103 at hf
  refine z_aload_n dJ0_length_8abf5_0 rfl ?_
  refine z_getCC dJ0_length_8abf5_1 tF_900_9 (by decide) hn2 hc_1000103 rfl ?_
  refine z_alenC (v := 2) dJ0_length_8abf5_4 (by decide) hn2 hc_1000203 (by decide) (by decide) ?_
  refine z_aload_n dJ0_length_8abf5_5 rfl ?_
  obtain ⟨r2, S1, k3, hf⟩ := zb_some hf
  refine z_callVi dJ0_length_8abf5_6 tM_900_335 mt_900004 (Nat.le_of_ble_eq_true rfl) rfl rfl (z_recvC (hp := (h, t)) (by decide) hn2 hc_1000103) rfl (ia_oks_le hn1 rfl) (Nat.le_of_ble_eq_true rfl) (w_J0_coder_7d493_1000103 hn1 hn2 (d + 0) hE k3) (fun h hE => ?_)
  refine z_ishr dJ0_length_8abf5_9 ?_
  have e_ := Option.some.inj hf
  subst e_
  exact z_ireturn dJ0_length_8abf5_10 rfl ⟨h, rfl, rfl, hE⟩
def f_J1_indexOfChar_4cfef_1000203_L7 (ex : Int32 → zS → Option (Int32 × zS)) (i1 : Int32) (i2 : Int32) (i3 : Int32) (i4 : Int32) : Nat → Int32 → zS → Option (Int32 × zS)
  | 0, _, _ => none
  | k + 1, x5, S =>
    if i3 ≤ x5 then
    ex x5 S
    else
    if ia_in x5 2 = true then
    if ¬ (zc_1000203 x5.toNatClampNeg) = i4 then
    zl (x5 + 1) fun (y5 : Int32) =>
    f_J1_indexOfChar_4cfef_1000203_L7 ex i1 i2 i3 i4 k y5 S
    else
    some (x5, S)
    else none
def f_J1_indexOfChar_4cfef_1000203 (v1 : Int32) (v2 : Int32) (v3 : Int32) (S : zS) : Option (Int32 × zS) :=
zl (v1.toInt8.toInt32) fun (y1 : Int32) =>
f_J1_indexOfChar_4cfef_1000203_L7 (fun (q7 : Int32) (S6 : zS) =>
some ((-1), S6)) v1 v2 v3 y1 zN v2 S
theorem w_J1_indexOfChar_4cfef_1000203_L7 {L : Nat} {xs : Nat → Int32} {fm : Bool} {D : Nat → Option zD} {h0 : Nat → va_E} {t : Nat × Nat × Nat} (hn1 : 64 ≤ t.1) (hn2 : t.1 ≤ 1000000) (d : Nat) {ex : Int32 → zS → Option (Int32 × zS)} {i1 : Int32} {i2 : Int32} {i3 : Int32} {i4 : Int32} {R : Int32 × zS} (hex : ∀ (x5 : Int32) (S : zS) (h : Nat → va_E), zE D h0 S (h, t) → ex x5 S = some R → zW (ia_P0 L xs fm) ia_nx (d + 0) 901 false cJ1_indexOfChar_4cfef 6 (some .int) 31 [(0, .ref 1000203), (1, .int i1), (2, .int i2), (3, .int i3), (4, .int i4), (5, .int x5)] [] (h, t) (zQi D h0 t R)) : ∀ (k : Nat) (x5 : Int32) (S : zS) (h : Nat → va_E), zE D h0 S (h, t) → f_J1_indexOfChar_4cfef_1000203_L7 ex i1 i2 i3 i4 k x5 S = some R → zW (ia_P0 L xs fm) ia_nx (d + 0) 901 false cJ1_indexOfChar_4cfef 6 (some .int) 7 [(0, .ref 1000203), (1, .int i1), (2, .int i2), (3, .int i3), (4, .int i4), (5, .int x5)] [] (h, t) (zQi D h0 t R) := by
  intro k
  induction k with
  | zero => intro x5 S h hE hf; cases hf
  | succ k ih =>
    intro x5 S h hE hf
    unfold f_J1_indexOfChar_4cfef_1000203_L7 at hf
    refine z_iload dJ1_indexOfChar_4cfef_7 rfl ?_
    refine z_iload_n dJ1_indexOfChar_4cfef_9 rfl ?_
    by_cases c2 : i3 ≤ x5
    · have hf := zif_t hf c2
      refine z_icmp_ge_t (tgt := 31) dJ1_indexOfChar_4cfef_10 (by decide) c2 ?_
      exact zW.sub (hex x5 S _ hE hf) [0, 1, 2, 3, 4, 5] rfl rfl rfl rfl
    · have hf := zif_f hf c2
      refine z_icmp_ge_f (tgt := 31) dJ1_indexOfChar_4cfef_10 (by decide) c2 ?_
      refine z_aload_n dJ1_indexOfChar_4cfef_13 rfl ?_
      refine z_iload dJ1_indexOfChar_4cfef_14 rfl ?_
      obtain ⟨b3, hf⟩ := zchk hf
      refine z_baloadC dJ1_indexOfChar_4cfef_16 (by decide) hn2 hc_1000203 b3 ?_
      refine z_iload dJ1_indexOfChar_4cfef_17 rfl ?_
      by_cases c4 : ¬ (zc_1000203 x5.toNatClampNeg) = i4
      · have hf := zif_t hf c4
        refine z_icmp_ne_t (tgt := 25) dJ1_indexOfChar_4cfef_19 (by decide) c4 ?_
        obtain ⟨y5, ey5, hf⟩ := zl_some hf
        refine z_iincY (v := 1) (y := y5) (lv' := [(5, .int y5), (0, .ref 1000203), (1, .int i1), (2, .int i2), (3, .int i3), (4, .int i4)]) dJ1_indexOfChar_4cfef_25 rfl (by decide) (by decide) ey5 rfl ?_
        refine z_goto (tgt := 7) dJ1_indexOfChar_4cfef_28 (by decide) ?_
        exact zW.sub (ih y5 S _ hE hf) [1, 2, 3, 4, 5, 0] rfl rfl rfl rfl
      · have hf := zif_f hf c4
        refine z_icmp_ne_f (tgt := 25) dJ1_indexOfChar_4cfef_19 (by decide) c4 ?_
        refine z_iload dJ1_indexOfChar_4cfef_22 rfl ?_
        have e_ := Option.some.inj hf
        subst e_
        exact z_ireturn dJ1_indexOfChar_4cfef_24 rfl ⟨h, rfl, rfl, hE⟩
theorem w_J1_indexOfChar_4cfef_1000203 {L : Nat} {xs : Nat → Int32} {fm : Bool} {D : Nat → Option zD} {h0 : Nat → va_E} {t : Nat × Nat × Nat} (hn1 : 64 ≤ t.1) (hn2 : t.1 ≤ 1000000) (d : Nat) {h : Nat → va_E} {S : zS} (hE : zE D h0 S (h, t)) {v1 : Int32} {v2 : Int32} {v3 : Int32} {R : Int32 × zS} (hf : f_J1_indexOfChar_4cfef_1000203 v1 v2 v3 S = some R) : zC (ia_P0 L xs fm) (d + 1) 901002 [.ref 1000203, .int v1, .int v2, .int v3] (h, t) (zQi D h0 t R) := by
  refine zC_of mt_901002 nn_901002 (Nat.le_of_ble_eq_true rfl) ?_
  refine zW_lv (lv' := [(0, .ref 1000203), (1, .int v1), (2, .int v2), (3, .int v3)]) rfl ?_
  unfold f_J1_indexOfChar_4cfef_1000203 at hf
  refine z_iload_n dJ1_indexOfChar_4cfef_0 rfl ?_
  refine z_i2b dJ1_indexOfChar_4cfef_1 ?_
  obtain ⟨y1, ey1, hf⟩ := zl_some hf
  refine z_topi ey1 ?_
  refine z_istore (lv' := [(4, .int y1), (0, .ref 1000203), (1, .int v1), (2, .int v2), (3, .int v3)]) dJ1_indexOfChar_4cfef_2 (by decide) rfl ?_
  refine z_iload_n dJ1_indexOfChar_4cfef_4 rfl ?_
  refine z_istore (lv' := [(5, .int v2), (4, .int y1), (0, .ref 1000203), (1, .int v1), (2, .int v2), (3, .int v3)]) dJ1_indexOfChar_4cfef_5 (by decide) rfl ?_
  refine zW.sub (w_J1_indexOfChar_4cfef_1000203_L7 hn1 hn2 d (fun q7 S6 h hE hf => ?_) zN v2 S h hE hf) [2, 3, 4, 5, 1, 0] rfl rfl rfl rfl
  try dsimp only at hf
  refine z_iconst (v := (-1)) dJ1_indexOfChar_4cfef_31 (by decide) ?_
  have e_ := Option.some.inj hf
  subst e_
  exact z_ireturn dJ1_indexOfChar_4cfef_32 rfl ⟨h, rfl, rfl, hE⟩
def f_J1_indexOf_4cfef_1000203 (v1 : Int32) (v2 : Int32) (v3 : Int32) (S : zS) : Option (Int32 × zS) :=
zb (f_J1_canEncode_9a6ad v1 S) fun r2 S1 =>
if ¬ r2 = 0 then
zl (if v2 < 0 then 0 else v2) fun (y5 : Int32) =>
zl (if 2 < v3 then 2 else v3) fun (y6 : Int32) =>
if y5 < y6 then
zb (f_J1_indexOfChar_4cfef_1000203 v1 y5 y6 S1) fun r9 S8 =>
some (r9, S8)
else
some ((-1), S1)
else
some ((-1), S1)
theorem w_J1_indexOf_4cfef_1000203 {L : Nat} {xs : Nat → Int32} {fm : Bool} {D : Nat → Option zD} {h0 : Nat → va_E} {t : Nat × Nat × Nat} (hn1 : 64 ≤ t.1) (hn2 : t.1 ≤ 1000000) (d : Nat) {h : Nat → va_E} {S : zS} (hE : zE D h0 S (h, t)) {v1 : Int32} {v2 : Int32} {v3 : Int32} {R : Int32 × zS} (hf : f_J1_indexOf_4cfef_1000203 v1 v2 v3 S = some R) : zC (ia_P0 L xs fm) (d + 2) 901000 [.ref 1000203, .int v1, .int v2, .int v3] (h, t) (zQi D h0 t R) := by
  refine zC_of mt_901000 nn_901000 (Nat.le_of_ble_eq_true rfl) ?_
  refine zW_lv (lv' := [(0, .ref 1000203), (1, .int v1), (2, .int v2), (3, .int v3)]) rfl ?_
  unfold f_J1_indexOf_4cfef_1000203 at hf
  refine z_iload_n dJ1_indexOf_4cfef_0 rfl ?_
  obtain ⟨r2, S1, k3, hf⟩ := zb_some hf
  refine z_callSi dJ1_indexOf_4cfef_1 tM_901_88 (by decide) mt_901001 (Nat.le_of_ble_eq_true rfl) rfl rfl (ia_oks_le hn1 rfl) (Nat.le_of_ble_eq_true rfl) (w_J1_canEncode_9a6ad hn1 hn2 (d + 0) hE k3) (fun h hE => ?_)
  by_cases c4 : ¬ r2 = 0
  · have hf := zif_t hf c4
    refine z_if_ne_t (tgt := 9) dJ1_indexOf_4cfef_4 (by decide) c4 ?_
    refine z_iload_n dJ1_indexOf_4cfef_9 rfl ?_
    refine z_iconst (v := 0) dJ1_indexOf_4cfef_10 (by decide) ?_
    refine z_mmax dJ1_indexOf_4cfef_11 tM_901_92 (Nat.le_of_ble_eq_true rfl) ?_
    obtain ⟨y5, ey5, hf⟩ := zl_some hf
    refine z_topi ey5 ?_
    refine z_istore_n (lv' := [(2, .int y5), (0, .ref 1000203), (1, .int v1), (3, .int v3)]) dJ1_indexOf_4cfef_14 (by decide) rfl ?_
    refine z_iload_n dJ1_indexOf_4cfef_15 rfl ?_
    refine z_aload_n dJ1_indexOf_4cfef_16 rfl ?_
    refine z_alenC (v := 2) dJ1_indexOf_4cfef_17 (by decide) hn2 hc_1000203 (by decide) (by decide) ?_
    refine z_mmin dJ1_indexOf_4cfef_18 tM_901_38 (Nat.le_of_ble_eq_true rfl) ?_
    obtain ⟨y6, ey6, hf⟩ := zl_some hf
    refine z_topi ey6 ?_
    refine z_istore_n (lv' := [(3, .int y6), (2, .int y5), (0, .ref 1000203), (1, .int v1)]) dJ1_indexOf_4cfef_21 (by decide) rfl ?_
    refine z_iload_n dJ1_indexOf_4cfef_22 rfl ?_
    refine z_iload_n dJ1_indexOf_4cfef_23 rfl ?_
    by_cases c7 : y5 < y6
    · have hf := zif_t hf c7
      refine z_icmp_lt_t (tgt := 29) dJ1_indexOf_4cfef_24 (by decide) c7 ?_
      refine z_aload_n dJ1_indexOf_4cfef_29 rfl ?_
      refine z_iload_n dJ1_indexOf_4cfef_30 rfl ?_
      refine z_iload_n dJ1_indexOf_4cfef_31 rfl ?_
      refine z_iload_n dJ1_indexOf_4cfef_32 rfl ?_
      obtain ⟨r9, S8, k10, hf⟩ := zb_some hf
      refine z_callSi dJ1_indexOf_4cfef_33 tM_901_95 (by decide) mt_901002 (Nat.le_of_ble_eq_true rfl) rfl rfl (ia_oks_le hn1 rfl) (Nat.le_of_ble_eq_true rfl) (w_J1_indexOfChar_4cfef_1000203 hn1 hn2 (d + 0) hE k10) (fun h hE => ?_)
      have e_ := Option.some.inj hf
      subst e_
      exact z_ireturn dJ1_indexOf_4cfef_36 rfl ⟨h, rfl, rfl, hE⟩
    · have hf := zif_f hf c7
      refine z_icmp_lt_f (tgt := 29) dJ1_indexOf_4cfef_24 (by decide) c7 ?_
      refine z_iconst (v := (-1)) dJ1_indexOf_4cfef_27 (by decide) ?_
      have e_ := Option.some.inj hf
      subst e_
      exact z_ireturn dJ1_indexOf_4cfef_28 rfl ⟨h, rfl, rfl, hE⟩
  · have hf := zif_f hf c4
    refine z_if_ne_f (tgt := 9) dJ1_indexOf_4cfef_4 (by decide) c4 ?_
    refine z_iconst (v := (-1)) dJ1_indexOf_4cfef_7 (by decide) ?_
    have e_ := Option.some.inj hf
    subst e_
    exact z_ireturn dJ1_indexOf_4cfef_8 rfl ⟨h, rfl, rfl, hE⟩
def f_J0_indexOf_7cf53_1000103 (v1 : Int32) (v2 : Int32) (S : zS) : Option (Int32 × zS) :=
zb (f_J0_isLatin1_aae02_1000103 S) fun r2 S1 =>
if r2 = 0 then
zb (f_J0_length_8abf5_1000103 S1) fun r6 S5 =>
none
else
zb (f_J0_length_8abf5_1000103 S1) fun r9 S8 =>
zb (f_J1_indexOf_4cfef_1000203 v1 v2 r9 S8) fun r12 S11 =>
some (r12, S11)
theorem w_J0_indexOf_7cf53_1000103 {L : Nat} {xs : Nat → Int32} {fm : Bool} {D : Nat → Option zD} {h0 : Nat → va_E} {t : Nat × Nat × Nat} (hn1 : 64 ≤ t.1) (hn2 : t.1 ≤ 1000000) (d : Nat) {h : Nat → va_E} {S : zS} (hE : zE D h0 S (h, t)) {v1 : Int32} {v2 : Int32} {R : Int32 × zS} (hf : f_J0_indexOf_7cf53_1000103 v1 v2 S = some R) : zC (ia_P0 L xs fm) (d + 3) 900001 [.ref 1000103, .int v1, .int v2] (h, t) (zQi D h0 t R) := by
  refine zC_of mt_900001 nn_900001 (Nat.le_of_ble_eq_true rfl) ?_
  refine zW_lv (lv' := [(0, .ref 1000103), (1, .int v1), (2, .int v2)]) rfl ?_
  unfold f_J0_indexOf_7cf53_1000103 at hf
  refine z_aload_n dJ0_indexOf_7cf53_0 rfl ?_
  obtain ⟨r2, S1, k3, hf⟩ := zb_some hf
  refine z_callVi dJ0_indexOf_7cf53_1 tM_900_492 mt_900002 (Nat.le_of_ble_eq_true rfl) rfl rfl (z_recvC (hp := (h, t)) (by decide) hn2 hc_1000103) rfl (ia_oks_le hn1 rfl) (Nat.le_of_ble_eq_true rfl) (w_J0_isLatin1_aae02_1000103 hn1 hn2 (d + 1) hE k3) (fun h hE => ?_)
  by_cases c4 : r2 = 0
  · have hf := zif_t hf c4
    refine z_if_eq_t (tgt := 23) dJ0_indexOf_7cf53_4 (by decide) c4 ?_
    refine z_aload_n dJ0_indexOf_7cf53_23 rfl ?_
    refine z_getCC dJ0_indexOf_7cf53_24 tF_900_9 (by decide) hn2 hc_1000103 rfl ?_
    refine z_iload_n dJ0_indexOf_7cf53_27 rfl ?_
    refine z_iload_n dJ0_indexOf_7cf53_28 rfl ?_
    refine z_aload_n dJ0_indexOf_7cf53_29 rfl ?_
    obtain ⟨r6, S5, k7, hf⟩ := zb_some hf
    refine z_callVi dJ0_indexOf_7cf53_30 tM_900_505 mt_900003 (Nat.le_of_ble_eq_true rfl) rfl rfl (z_recvC (hp := (h, t)) (by decide) hn2 hc_1000103) rfl (ia_oks_le hn1 rfl) (Nat.le_of_ble_eq_true rfl) (w_J0_length_8abf5_1000103 hn1 hn2 (d + 0) hE k7) (fun h hE => ?_)
    cases hf
  · have hf := zif_f hf c4
    refine z_if_eq_f (tgt := 23) dJ0_indexOf_7cf53_4 (by decide) c4 ?_
    refine z_aload_n dJ0_indexOf_7cf53_7 rfl ?_
    refine z_getCC dJ0_indexOf_7cf53_8 tF_900_9 (by decide) hn2 hc_1000103 rfl ?_
    refine z_iload_n dJ0_indexOf_7cf53_11 rfl ?_
    refine z_iload_n dJ0_indexOf_7cf53_12 rfl ?_
    refine z_aload_n dJ0_indexOf_7cf53_13 rfl ?_
    obtain ⟨r9, S8, k10, hf⟩ := zb_some hf
    refine z_callVi dJ0_indexOf_7cf53_14 tM_900_505 mt_900003 (Nat.le_of_ble_eq_true rfl) rfl rfl (z_recvC (hp := (h, t)) (by decide) hn2 hc_1000103) rfl (ia_oks_le hn1 rfl) (Nat.le_of_ble_eq_true rfl) (w_J0_length_8abf5_1000103 hn1 hn2 (d + 0) hE k10) (fun h hE => ?_)
    obtain ⟨r12, S11, k13, hf⟩ := zb_some hf
    refine z_callSi dJ0_indexOf_7cf53_17 tM_900_637 (by decide) mt_901000 (Nat.le_of_ble_eq_true rfl) rfl rfl (ia_oks_le hn1 rfl) (Nat.le_of_ble_eq_true rfl) (w_J1_indexOf_4cfef_1000203 hn1 hn2 (d + 0) hE k13) (fun h hE => ?_)
    refine z_goto (tgt := 36) dJ0_indexOf_7cf53_20 (by decide) ?_
    have e_ := Option.some.inj hf
    subst e_
    exact z_ireturn dJ0_indexOf_7cf53_36 rfl ⟨h, rfl, rfl, hE⟩
def f_J0_indexOf_0f7a4_1000103 (v1 : Int32) (S : zS) : Option (Int32 × zS) :=
zb (f_J0_indexOf_7cf53_1000103 v1 0 S) fun r2 S1 =>
some (r2, S1)
theorem w_J0_indexOf_0f7a4_1000103 {L : Nat} {xs : Nat → Int32} {fm : Bool} {D : Nat → Option zD} {h0 : Nat → va_E} {t : Nat × Nat × Nat} (hn1 : 64 ≤ t.1) (hn2 : t.1 ≤ 1000000) (d : Nat) {h : Nat → va_E} {S : zS} (hE : zE D h0 S (h, t)) {v1 : Int32} {R : Int32 × zS} (hf : f_J0_indexOf_0f7a4_1000103 v1 S = some R) : zC (ia_P0 L xs fm) (d + 4) 900000 [.ref 1000103, .int v1] (h, t) (zQi D h0 t R) := by
  refine zC_of mt_900000 nn_900000 (Nat.le_of_ble_eq_true rfl) ?_
  refine zW_lv (lv' := [(0, .ref 1000103), (1, .int v1)]) rfl ?_
  unfold f_J0_indexOf_0f7a4_1000103 at hf
  refine z_aload_n dJ0_indexOf_0f7a4_0 rfl ?_
  refine z_iload_n dJ0_indexOf_0f7a4_1 rfl ?_
  refine z_iconst (v := 0) dJ0_indexOf_0f7a4_2 (by decide) ?_
  obtain ⟨r2, S1, k3, hf⟩ := zb_some hf
  refine z_callVi dJ0_indexOf_0f7a4_3 tM_900_633 mt_900001 (Nat.le_of_ble_eq_true rfl) rfl rfl (z_recvC (hp := (h, t)) (by decide) hn2 hc_1000103) rfl (ia_oks_le hn1 rfl) (Nat.le_of_ble_eq_true rfl) (w_J0_indexOf_7cf53_1000103 hn1 hn2 (d + 0) hE k3) (fun h hE => ?_)
  have e_ := Option.some.inj hf
  subst e_
  exact z_ireturn dJ0_indexOf_0f7a4_6 rfl ⟨h, rfl, rfl, hE⟩
def f_J0_isLatin1_aae02_1000104  (S : zS) : Option (Int32 × zS) :=
some (1, S)
theorem w_J0_isLatin1_aae02_1000104 {L : Nat} {xs : Nat → Int32} {fm : Bool} {D : Nat → Option zD} {h0 : Nat → va_E} {t : Nat × Nat × Nat} (hn1 : 64 ≤ t.1) (hn2 : t.1 ≤ 1000000) (d : Nat) {h : Nat → va_E} {S : zS} (hE : zE D h0 S (h, t)) {R : Int32 × zS} (hf : f_J0_isLatin1_aae02_1000104  S = some R) : zC (ia_P0 L xs fm) (d + 1) 900002 [.ref 1000104] (h, t) (zQi D h0 t R) := by
  refine zC_of mt_900002 nn_900002 (Nat.le_of_ble_eq_true rfl) ?_
  refine zW_lv (lv' := [(0, .ref 1000104)]) rfl ?_
  unfold f_J0_isLatin1_aae02_1000104 at hf
  refine z_getstatic dJ0_isLatin1_aae02_0 tS_900_38 ?_
  refine z_if_eq_f (tgt := 17) dJ0_isLatin1_aae02_3 (by decide) (by decide) ?_
  refine z_aload_n dJ0_isLatin1_aae02_6 rfl ?_
  refine z_getCC dJ0_isLatin1_aae02_7 tF_900_15 (by decide) hn2 hc_1000104 rfl ?_
  refine z_if_ne_f (tgt := 17) dJ0_isLatin1_aae02_10 (by decide) (by decide) ?_
  refine z_iconst (v := 1) dJ0_isLatin1_aae02_13 (by decide) ?_
  refine z_goto (tgt := 18) dJ0_isLatin1_aae02_14 (by decide) ?_
  have e_ := Option.some.inj hf
  subst e_
  exact z_zreturn dJ0_isLatin1_aae02_18 rfl (by decide) ⟨h, rfl, rfl, hE⟩
def f_J0_coder_7d493_1000104  (S : zS) : Option (Int32 × zS) :=
some (0, S)
theorem w_J0_coder_7d493_1000104 {L : Nat} {xs : Nat → Int32} {fm : Bool} {D : Nat → Option zD} {h0 : Nat → va_E} {t : Nat × Nat × Nat} (hn1 : 64 ≤ t.1) (hn2 : t.1 ≤ 1000000) (d : Nat) {h : Nat → va_E} {S : zS} (hE : zE D h0 S (h, t)) {R : Int32 × zS} (hf : f_J0_coder_7d493_1000104  S = some R) : zC (ia_P0 L xs fm) (d + 1) 900004 [.ref 1000104] (h, t) (zQi D h0 t R) := by
  refine zC_of mt_900004 nn_900004 (Nat.le_of_ble_eq_true rfl) ?_
  refine zW_lv (lv' := [(0, .ref 1000104)]) rfl ?_
  unfold f_J0_coder_7d493_1000104 at hf
  refine z_getstatic dJ0_coder_7d493_0 tS_900_38 ?_
  refine z_if_eq_f (tgt := 13) dJ0_coder_7d493_3 (by decide) (by decide) ?_
  refine z_aload_n dJ0_coder_7d493_6 rfl ?_
  refine z_getCC dJ0_coder_7d493_7 tF_900_15 (by decide) hn2 hc_1000104 rfl ?_
  refine z_goto (tgt := 14) dJ0_coder_7d493_10 (by decide) ?_
  have e_ := Option.some.inj hf
  subst e_
  exact z_breturn dJ0_coder_7d493_14 rfl (by decide) ⟨h, rfl, rfl, hE⟩
def f_J0_length_8abf5_1000104  (S : zS) : Option (Int32 × zS) :=
zb (f_J0_coder_7d493_1000104 S) fun r2 S1 =>
some (6 >>> (r2 &&& 31), S1)
theorem w_J0_length_8abf5_1000104 {L : Nat} {xs : Nat → Int32} {fm : Bool} {D : Nat → Option zD} {h0 : Nat → va_E} {t : Nat × Nat × Nat} (hn1 : 64 ≤ t.1) (hn2 : t.1 ≤ 1000000) (d : Nat) {h : Nat → va_E} {S : zS} (hE : zE D h0 S (h, t)) {R : Int32 × zS} (hf : f_J0_length_8abf5_1000104  S = some R) : zC (ia_P0 L xs fm) (d + 2) 900003 [.ref 1000104] (h, t) (zQi D h0 t R) := by
  refine zC_of mt_900003 nn_900003 (Nat.le_of_ble_eq_true rfl) ?_
  refine zW_lv (lv' := [(0, .ref 1000104)]) rfl ?_
  unfold f_J0_length_8abf5_1000104 at hf
  refine z_aload_n dJ0_length_8abf5_0 rfl ?_
  refine z_getCC dJ0_length_8abf5_1 tF_900_9 (by decide) hn2 hc_1000104 rfl ?_
  refine z_alenC (v := 6) dJ0_length_8abf5_4 (by decide) hn2 hc_1000204 (by decide) (by decide) ?_
  refine z_aload_n dJ0_length_8abf5_5 rfl ?_
  obtain ⟨r2, S1, k3, hf⟩ := zb_some hf
  refine z_callVi dJ0_length_8abf5_6 tM_900_335 mt_900004 (Nat.le_of_ble_eq_true rfl) rfl rfl (z_recvC (hp := (h, t)) (by decide) hn2 hc_1000104) rfl (ia_oks_le hn1 rfl) (Nat.le_of_ble_eq_true rfl) (w_J0_coder_7d493_1000104 hn1 hn2 (d + 0) hE k3) (fun h hE => ?_)
  refine z_ishr dJ0_length_8abf5_9 ?_
  have e_ := Option.some.inj hf
  subst e_
  exact z_ireturn dJ0_length_8abf5_10 rfl ⟨h, rfl, rfl, hE⟩
def f_J1_indexOfChar_4cfef_1000204_L7 (ex : Int32 → zS → Option (Int32 × zS)) (i1 : Int32) (i2 : Int32) (i3 : Int32) (i4 : Int32) : Nat → Int32 → zS → Option (Int32 × zS)
  | 0, _, _ => none
  | k + 1, x5, S =>
    if i3 ≤ x5 then
    ex x5 S
    else
    if ia_in x5 6 = true then
    if ¬ (zc_1000204 x5.toNatClampNeg) = i4 then
    zl (x5 + 1) fun (y5 : Int32) =>
    f_J1_indexOfChar_4cfef_1000204_L7 ex i1 i2 i3 i4 k y5 S
    else
    some (x5, S)
    else none
def f_J1_indexOfChar_4cfef_1000204 (v1 : Int32) (v2 : Int32) (v3 : Int32) (S : zS) : Option (Int32 × zS) :=
zl (v1.toInt8.toInt32) fun (y1 : Int32) =>
f_J1_indexOfChar_4cfef_1000204_L7 (fun (q7 : Int32) (S6 : zS) =>
some ((-1), S6)) v1 v2 v3 y1 zN v2 S
theorem w_J1_indexOfChar_4cfef_1000204_L7 {L : Nat} {xs : Nat → Int32} {fm : Bool} {D : Nat → Option zD} {h0 : Nat → va_E} {t : Nat × Nat × Nat} (hn1 : 64 ≤ t.1) (hn2 : t.1 ≤ 1000000) (d : Nat) {ex : Int32 → zS → Option (Int32 × zS)} {i1 : Int32} {i2 : Int32} {i3 : Int32} {i4 : Int32} {R : Int32 × zS} (hex : ∀ (x5 : Int32) (S : zS) (h : Nat → va_E), zE D h0 S (h, t) → ex x5 S = some R → zW (ia_P0 L xs fm) ia_nx (d + 0) 901 false cJ1_indexOfChar_4cfef 6 (some .int) 31 [(0, .ref 1000204), (1, .int i1), (2, .int i2), (3, .int i3), (4, .int i4), (5, .int x5)] [] (h, t) (zQi D h0 t R)) : ∀ (k : Nat) (x5 : Int32) (S : zS) (h : Nat → va_E), zE D h0 S (h, t) → f_J1_indexOfChar_4cfef_1000204_L7 ex i1 i2 i3 i4 k x5 S = some R → zW (ia_P0 L xs fm) ia_nx (d + 0) 901 false cJ1_indexOfChar_4cfef 6 (some .int) 7 [(0, .ref 1000204), (1, .int i1), (2, .int i2), (3, .int i3), (4, .int i4), (5, .int x5)] [] (h, t) (zQi D h0 t R) := by
  intro k
  induction k with
  | zero => intro x5 S h hE hf; cases hf
  | succ k ih =>
    intro x5 S h hE hf
    unfold f_J1_indexOfChar_4cfef_1000204_L7 at hf
    refine z_iload dJ1_indexOfChar_4cfef_7 rfl ?_
    refine z_iload_n dJ1_indexOfChar_4cfef_9 rfl ?_
    by_cases c2 : i3 ≤ x5
    · have hf := zif_t hf c2
      refine z_icmp_ge_t (tgt := 31) dJ1_indexOfChar_4cfef_10 (by decide) c2 ?_
      exact zW.sub (hex x5 S _ hE hf) [0, 1, 2, 3, 4, 5] rfl rfl rfl rfl
    · have hf := zif_f hf c2
      refine z_icmp_ge_f (tgt := 31) dJ1_indexOfChar_4cfef_10 (by decide) c2 ?_
      refine z_aload_n dJ1_indexOfChar_4cfef_13 rfl ?_
      refine z_iload dJ1_indexOfChar_4cfef_14 rfl ?_
      obtain ⟨b3, hf⟩ := zchk hf
      refine z_baloadC dJ1_indexOfChar_4cfef_16 (by decide) hn2 hc_1000204 b3 ?_
      refine z_iload dJ1_indexOfChar_4cfef_17 rfl ?_
      by_cases c4 : ¬ (zc_1000204 x5.toNatClampNeg) = i4
      · have hf := zif_t hf c4
        refine z_icmp_ne_t (tgt := 25) dJ1_indexOfChar_4cfef_19 (by decide) c4 ?_
        obtain ⟨y5, ey5, hf⟩ := zl_some hf
        refine z_iincY (v := 1) (y := y5) (lv' := [(5, .int y5), (0, .ref 1000204), (1, .int i1), (2, .int i2), (3, .int i3), (4, .int i4)]) dJ1_indexOfChar_4cfef_25 rfl (by decide) (by decide) ey5 rfl ?_
        refine z_goto (tgt := 7) dJ1_indexOfChar_4cfef_28 (by decide) ?_
        exact zW.sub (ih y5 S _ hE hf) [1, 2, 3, 4, 5, 0] rfl rfl rfl rfl
      · have hf := zif_f hf c4
        refine z_icmp_ne_f (tgt := 25) dJ1_indexOfChar_4cfef_19 (by decide) c4 ?_
        refine z_iload dJ1_indexOfChar_4cfef_22 rfl ?_
        have e_ := Option.some.inj hf
        subst e_
        exact z_ireturn dJ1_indexOfChar_4cfef_24 rfl ⟨h, rfl, rfl, hE⟩
theorem w_J1_indexOfChar_4cfef_1000204 {L : Nat} {xs : Nat → Int32} {fm : Bool} {D : Nat → Option zD} {h0 : Nat → va_E} {t : Nat × Nat × Nat} (hn1 : 64 ≤ t.1) (hn2 : t.1 ≤ 1000000) (d : Nat) {h : Nat → va_E} {S : zS} (hE : zE D h0 S (h, t)) {v1 : Int32} {v2 : Int32} {v3 : Int32} {R : Int32 × zS} (hf : f_J1_indexOfChar_4cfef_1000204 v1 v2 v3 S = some R) : zC (ia_P0 L xs fm) (d + 1) 901002 [.ref 1000204, .int v1, .int v2, .int v3] (h, t) (zQi D h0 t R) := by
  refine zC_of mt_901002 nn_901002 (Nat.le_of_ble_eq_true rfl) ?_
  refine zW_lv (lv' := [(0, .ref 1000204), (1, .int v1), (2, .int v2), (3, .int v3)]) rfl ?_
  unfold f_J1_indexOfChar_4cfef_1000204 at hf
  refine z_iload_n dJ1_indexOfChar_4cfef_0 rfl ?_
  refine z_i2b dJ1_indexOfChar_4cfef_1 ?_
  obtain ⟨y1, ey1, hf⟩ := zl_some hf
  refine z_topi ey1 ?_
  refine z_istore (lv' := [(4, .int y1), (0, .ref 1000204), (1, .int v1), (2, .int v2), (3, .int v3)]) dJ1_indexOfChar_4cfef_2 (by decide) rfl ?_
  refine z_iload_n dJ1_indexOfChar_4cfef_4 rfl ?_
  refine z_istore (lv' := [(5, .int v2), (4, .int y1), (0, .ref 1000204), (1, .int v1), (2, .int v2), (3, .int v3)]) dJ1_indexOfChar_4cfef_5 (by decide) rfl ?_
  refine zW.sub (w_J1_indexOfChar_4cfef_1000204_L7 hn1 hn2 d (fun q7 S6 h hE hf => ?_) zN v2 S h hE hf) [2, 3, 4, 5, 1, 0] rfl rfl rfl rfl
  try dsimp only at hf
  refine z_iconst (v := (-1)) dJ1_indexOfChar_4cfef_31 (by decide) ?_
  have e_ := Option.some.inj hf
  subst e_
  exact z_ireturn dJ1_indexOfChar_4cfef_32 rfl ⟨h, rfl, rfl, hE⟩
def f_J1_indexOf_4cfef_1000204 (v1 : Int32) (v2 : Int32) (v3 : Int32) (S : zS) : Option (Int32 × zS) :=
zb (f_J1_canEncode_9a6ad v1 S) fun r2 S1 =>
if ¬ r2 = 0 then
zl (if v2 < 0 then 0 else v2) fun (y5 : Int32) =>
zl (if 6 < v3 then 6 else v3) fun (y6 : Int32) =>
if y5 < y6 then
zb (f_J1_indexOfChar_4cfef_1000204 v1 y5 y6 S1) fun r9 S8 =>
some (r9, S8)
else
some ((-1), S1)
else
some ((-1), S1)
theorem w_J1_indexOf_4cfef_1000204 {L : Nat} {xs : Nat → Int32} {fm : Bool} {D : Nat → Option zD} {h0 : Nat → va_E} {t : Nat × Nat × Nat} (hn1 : 64 ≤ t.1) (hn2 : t.1 ≤ 1000000) (d : Nat) {h : Nat → va_E} {S : zS} (hE : zE D h0 S (h, t)) {v1 : Int32} {v2 : Int32} {v3 : Int32} {R : Int32 × zS} (hf : f_J1_indexOf_4cfef_1000204 v1 v2 v3 S = some R) : zC (ia_P0 L xs fm) (d + 2) 901000 [.ref 1000204, .int v1, .int v2, .int v3] (h, t) (zQi D h0 t R) := by
  refine zC_of mt_901000 nn_901000 (Nat.le_of_ble_eq_true rfl) ?_
  refine zW_lv (lv' := [(0, .ref 1000204), (1, .int v1), (2, .int v2), (3, .int v3)]) rfl ?_
  unfold f_J1_indexOf_4cfef_1000204 at hf
  refine z_iload_n dJ1_indexOf_4cfef_0 rfl ?_
  obtain ⟨r2, S1, k3, hf⟩ := zb_some hf
  refine z_callSi dJ1_indexOf_4cfef_1 tM_901_88 (by decide) mt_901001 (Nat.le_of_ble_eq_true rfl) rfl rfl (ia_oks_le hn1 rfl) (Nat.le_of_ble_eq_true rfl) (w_J1_canEncode_9a6ad hn1 hn2 (d + 0) hE k3) (fun h hE => ?_)
  by_cases c4 : ¬ r2 = 0
  · have hf := zif_t hf c4
    refine z_if_ne_t (tgt := 9) dJ1_indexOf_4cfef_4 (by decide) c4 ?_
    refine z_iload_n dJ1_indexOf_4cfef_9 rfl ?_
    refine z_iconst (v := 0) dJ1_indexOf_4cfef_10 (by decide) ?_
    refine z_mmax dJ1_indexOf_4cfef_11 tM_901_92 (Nat.le_of_ble_eq_true rfl) ?_
    obtain ⟨y5, ey5, hf⟩ := zl_some hf
    refine z_topi ey5 ?_
    refine z_istore_n (lv' := [(2, .int y5), (0, .ref 1000204), (1, .int v1), (3, .int v3)]) dJ1_indexOf_4cfef_14 (by decide) rfl ?_
    refine z_iload_n dJ1_indexOf_4cfef_15 rfl ?_
    refine z_aload_n dJ1_indexOf_4cfef_16 rfl ?_
    refine z_alenC (v := 6) dJ1_indexOf_4cfef_17 (by decide) hn2 hc_1000204 (by decide) (by decide) ?_
    refine z_mmin dJ1_indexOf_4cfef_18 tM_901_38 (Nat.le_of_ble_eq_true rfl) ?_
    obtain ⟨y6, ey6, hf⟩ := zl_some hf
    refine z_topi ey6 ?_
    refine z_istore_n (lv' := [(3, .int y6), (2, .int y5), (0, .ref 1000204), (1, .int v1)]) dJ1_indexOf_4cfef_21 (by decide) rfl ?_
    refine z_iload_n dJ1_indexOf_4cfef_22 rfl ?_
    refine z_iload_n dJ1_indexOf_4cfef_23 rfl ?_
    by_cases c7 : y5 < y6
    · have hf := zif_t hf c7
      refine z_icmp_lt_t (tgt := 29) dJ1_indexOf_4cfef_24 (by decide) c7 ?_
      refine z_aload_n dJ1_indexOf_4cfef_29 rfl ?_
      refine z_iload_n dJ1_indexOf_4cfef_30 rfl ?_
      refine z_iload_n dJ1_indexOf_4cfef_31 rfl ?_
      refine z_iload_n dJ1_indexOf_4cfef_32 rfl ?_
      obtain ⟨r9, S8, k10, hf⟩ := zb_some hf
      refine z_callSi dJ1_indexOf_4cfef_33 tM_901_95 (by decide) mt_901002 (Nat.le_of_ble_eq_true rfl) rfl rfl (ia_oks_le hn1 rfl) (Nat.le_of_ble_eq_true rfl) (w_J1_indexOfChar_4cfef_1000204 hn1 hn2 (d + 0) hE k10) (fun h hE => ?_)
      have e_ := Option.some.inj hf
      subst e_
      exact z_ireturn dJ1_indexOf_4cfef_36 rfl ⟨h, rfl, rfl, hE⟩
    · have hf := zif_f hf c7
      refine z_icmp_lt_f (tgt := 29) dJ1_indexOf_4cfef_24 (by decide) c7 ?_
      refine z_iconst (v := (-1)) dJ1_indexOf_4cfef_27 (by decide) ?_
      have e_ := Option.some.inj hf
      subst e_
      exact z_ireturn dJ1_indexOf_4cfef_28 rfl ⟨h, rfl, rfl, hE⟩
  · have hf := zif_f hf c4
    refine z_if_ne_f (tgt := 9) dJ1_indexOf_4cfef_4 (by decide) c4 ?_
    refine z_iconst (v := (-1)) dJ1_indexOf_4cfef_7 (by decide) ?_
    have e_ := Option.some.inj hf
    subst e_
    exact z_ireturn dJ1_indexOf_4cfef_8 rfl ⟨h, rfl, rfl, hE⟩
def f_J0_indexOf_7cf53_1000104 (v1 : Int32) (v2 : Int32) (S : zS) : Option (Int32 × zS) :=
zb (f_J0_isLatin1_aae02_1000104 S) fun r2 S1 =>
if r2 = 0 then
zb (f_J0_length_8abf5_1000104 S1) fun r6 S5 =>
none
else
zb (f_J0_length_8abf5_1000104 S1) fun r9 S8 =>
zb (f_J1_indexOf_4cfef_1000204 v1 v2 r9 S8) fun r12 S11 =>
some (r12, S11)
theorem w_J0_indexOf_7cf53_1000104 {L : Nat} {xs : Nat → Int32} {fm : Bool} {D : Nat → Option zD} {h0 : Nat → va_E} {t : Nat × Nat × Nat} (hn1 : 64 ≤ t.1) (hn2 : t.1 ≤ 1000000) (d : Nat) {h : Nat → va_E} {S : zS} (hE : zE D h0 S (h, t)) {v1 : Int32} {v2 : Int32} {R : Int32 × zS} (hf : f_J0_indexOf_7cf53_1000104 v1 v2 S = some R) : zC (ia_P0 L xs fm) (d + 3) 900001 [.ref 1000104, .int v1, .int v2] (h, t) (zQi D h0 t R) := by
  refine zC_of mt_900001 nn_900001 (Nat.le_of_ble_eq_true rfl) ?_
  refine zW_lv (lv' := [(0, .ref 1000104), (1, .int v1), (2, .int v2)]) rfl ?_
  unfold f_J0_indexOf_7cf53_1000104 at hf
  refine z_aload_n dJ0_indexOf_7cf53_0 rfl ?_
  obtain ⟨r2, S1, k3, hf⟩ := zb_some hf
  refine z_callVi dJ0_indexOf_7cf53_1 tM_900_492 mt_900002 (Nat.le_of_ble_eq_true rfl) rfl rfl (z_recvC (hp := (h, t)) (by decide) hn2 hc_1000104) rfl (ia_oks_le hn1 rfl) (Nat.le_of_ble_eq_true rfl) (w_J0_isLatin1_aae02_1000104 hn1 hn2 (d + 1) hE k3) (fun h hE => ?_)
  by_cases c4 : r2 = 0
  · have hf := zif_t hf c4
    refine z_if_eq_t (tgt := 23) dJ0_indexOf_7cf53_4 (by decide) c4 ?_
    refine z_aload_n dJ0_indexOf_7cf53_23 rfl ?_
    refine z_getCC dJ0_indexOf_7cf53_24 tF_900_9 (by decide) hn2 hc_1000104 rfl ?_
    refine z_iload_n dJ0_indexOf_7cf53_27 rfl ?_
    refine z_iload_n dJ0_indexOf_7cf53_28 rfl ?_
    refine z_aload_n dJ0_indexOf_7cf53_29 rfl ?_
    obtain ⟨r6, S5, k7, hf⟩ := zb_some hf
    refine z_callVi dJ0_indexOf_7cf53_30 tM_900_505 mt_900003 (Nat.le_of_ble_eq_true rfl) rfl rfl (z_recvC (hp := (h, t)) (by decide) hn2 hc_1000104) rfl (ia_oks_le hn1 rfl) (Nat.le_of_ble_eq_true rfl) (w_J0_length_8abf5_1000104 hn1 hn2 (d + 0) hE k7) (fun h hE => ?_)
    cases hf
  · have hf := zif_f hf c4
    refine z_if_eq_f (tgt := 23) dJ0_indexOf_7cf53_4 (by decide) c4 ?_
    refine z_aload_n dJ0_indexOf_7cf53_7 rfl ?_
    refine z_getCC dJ0_indexOf_7cf53_8 tF_900_9 (by decide) hn2 hc_1000104 rfl ?_
    refine z_iload_n dJ0_indexOf_7cf53_11 rfl ?_
    refine z_iload_n dJ0_indexOf_7cf53_12 rfl ?_
    refine z_aload_n dJ0_indexOf_7cf53_13 rfl ?_
    obtain ⟨r9, S8, k10, hf⟩ := zb_some hf
    refine z_callVi dJ0_indexOf_7cf53_14 tM_900_505 mt_900003 (Nat.le_of_ble_eq_true rfl) rfl rfl (z_recvC (hp := (h, t)) (by decide) hn2 hc_1000104) rfl (ia_oks_le hn1 rfl) (Nat.le_of_ble_eq_true rfl) (w_J0_length_8abf5_1000104 hn1 hn2 (d + 0) hE k10) (fun h hE => ?_)
    obtain ⟨r12, S11, k13, hf⟩ := zb_some hf
    refine z_callSi dJ0_indexOf_7cf53_17 tM_900_637 (by decide) mt_901000 (Nat.le_of_ble_eq_true rfl) rfl rfl (ia_oks_le hn1 rfl) (Nat.le_of_ble_eq_true rfl) (w_J1_indexOf_4cfef_1000204 hn1 hn2 (d + 0) hE k13) (fun h hE => ?_)
    refine z_goto (tgt := 36) dJ0_indexOf_7cf53_20 (by decide) ?_
    have e_ := Option.some.inj hf
    subst e_
    exact z_ireturn dJ0_indexOf_7cf53_36 rfl ⟨h, rfl, rfl, hE⟩
def f_J0_indexOf_0f7a4_1000104 (v1 : Int32) (S : zS) : Option (Int32 × zS) :=
zb (f_J0_indexOf_7cf53_1000104 v1 0 S) fun r2 S1 =>
some (r2, S1)
theorem w_J0_indexOf_0f7a4_1000104 {L : Nat} {xs : Nat → Int32} {fm : Bool} {D : Nat → Option zD} {h0 : Nat → va_E} {t : Nat × Nat × Nat} (hn1 : 64 ≤ t.1) (hn2 : t.1 ≤ 1000000) (d : Nat) {h : Nat → va_E} {S : zS} (hE : zE D h0 S (h, t)) {v1 : Int32} {R : Int32 × zS} (hf : f_J0_indexOf_0f7a4_1000104 v1 S = some R) : zC (ia_P0 L xs fm) (d + 4) 900000 [.ref 1000104, .int v1] (h, t) (zQi D h0 t R) := by
  refine zC_of mt_900000 nn_900000 (Nat.le_of_ble_eq_true rfl) ?_
  refine zW_lv (lv' := [(0, .ref 1000104), (1, .int v1)]) rfl ?_
  unfold f_J0_indexOf_0f7a4_1000104 at hf
  refine z_aload_n dJ0_indexOf_0f7a4_0 rfl ?_
  refine z_iload_n dJ0_indexOf_0f7a4_1 rfl ?_
  refine z_iconst (v := 0) dJ0_indexOf_0f7a4_2 (by decide) ?_
  obtain ⟨r2, S1, k3, hf⟩ := zb_some hf
  refine z_callVi dJ0_indexOf_0f7a4_3 tM_900_633 mt_900001 (Nat.le_of_ble_eq_true rfl) rfl rfl (z_recvC (hp := (h, t)) (by decide) hn2 hc_1000104) rfl (ia_oks_le hn1 rfl) (Nat.le_of_ble_eq_true rfl) (w_J0_indexOf_7cf53_1000104 hn1 hn2 (d + 0) hE k3) (fun h hE => ?_)
  have e_ := Option.some.inj hf
  subst e_
  exact z_ireturn dJ0_indexOf_0f7a4_6 rfl ⟨h, rfl, rfl, hE⟩
def f_J0_isLatin1_aae02_1000105  (S : zS) : Option (Int32 × zS) :=
some (1, S)
theorem w_J0_isLatin1_aae02_1000105 {L : Nat} {xs : Nat → Int32} {fm : Bool} {D : Nat → Option zD} {h0 : Nat → va_E} {t : Nat × Nat × Nat} (hn1 : 64 ≤ t.1) (hn2 : t.1 ≤ 1000000) (d : Nat) {h : Nat → va_E} {S : zS} (hE : zE D h0 S (h, t)) {R : Int32 × zS} (hf : f_J0_isLatin1_aae02_1000105  S = some R) : zC (ia_P0 L xs fm) (d + 1) 900002 [.ref 1000105] (h, t) (zQi D h0 t R) := by
  refine zC_of mt_900002 nn_900002 (Nat.le_of_ble_eq_true rfl) ?_
  refine zW_lv (lv' := [(0, .ref 1000105)]) rfl ?_
  unfold f_J0_isLatin1_aae02_1000105 at hf
  refine z_getstatic dJ0_isLatin1_aae02_0 tS_900_38 ?_
  refine z_if_eq_f (tgt := 17) dJ0_isLatin1_aae02_3 (by decide) (by decide) ?_
  refine z_aload_n dJ0_isLatin1_aae02_6 rfl ?_
  refine z_getCC dJ0_isLatin1_aae02_7 tF_900_15 (by decide) hn2 hc_1000105 rfl ?_
  refine z_if_ne_f (tgt := 17) dJ0_isLatin1_aae02_10 (by decide) (by decide) ?_
  refine z_iconst (v := 1) dJ0_isLatin1_aae02_13 (by decide) ?_
  refine z_goto (tgt := 18) dJ0_isLatin1_aae02_14 (by decide) ?_
  have e_ := Option.some.inj hf
  subst e_
  exact z_zreturn dJ0_isLatin1_aae02_18 rfl (by decide) ⟨h, rfl, rfl, hE⟩
def f_J0_coder_7d493_1000105  (S : zS) : Option (Int32 × zS) :=
some (0, S)
theorem w_J0_coder_7d493_1000105 {L : Nat} {xs : Nat → Int32} {fm : Bool} {D : Nat → Option zD} {h0 : Nat → va_E} {t : Nat × Nat × Nat} (hn1 : 64 ≤ t.1) (hn2 : t.1 ≤ 1000000) (d : Nat) {h : Nat → va_E} {S : zS} (hE : zE D h0 S (h, t)) {R : Int32 × zS} (hf : f_J0_coder_7d493_1000105  S = some R) : zC (ia_P0 L xs fm) (d + 1) 900004 [.ref 1000105] (h, t) (zQi D h0 t R) := by
  refine zC_of mt_900004 nn_900004 (Nat.le_of_ble_eq_true rfl) ?_
  refine zW_lv (lv' := [(0, .ref 1000105)]) rfl ?_
  unfold f_J0_coder_7d493_1000105 at hf
  refine z_getstatic dJ0_coder_7d493_0 tS_900_38 ?_
  refine z_if_eq_f (tgt := 13) dJ0_coder_7d493_3 (by decide) (by decide) ?_
  refine z_aload_n dJ0_coder_7d493_6 rfl ?_
  refine z_getCC dJ0_coder_7d493_7 tF_900_15 (by decide) hn2 hc_1000105 rfl ?_
  refine z_goto (tgt := 14) dJ0_coder_7d493_10 (by decide) ?_
  have e_ := Option.some.inj hf
  subst e_
  exact z_breturn dJ0_coder_7d493_14 rfl (by decide) ⟨h, rfl, rfl, hE⟩
def f_J0_length_8abf5_1000105  (S : zS) : Option (Int32 × zS) :=
zb (f_J0_coder_7d493_1000105 S) fun r2 S1 =>
some (5 >>> (r2 &&& 31), S1)
theorem w_J0_length_8abf5_1000105 {L : Nat} {xs : Nat → Int32} {fm : Bool} {D : Nat → Option zD} {h0 : Nat → va_E} {t : Nat × Nat × Nat} (hn1 : 64 ≤ t.1) (hn2 : t.1 ≤ 1000000) (d : Nat) {h : Nat → va_E} {S : zS} (hE : zE D h0 S (h, t)) {R : Int32 × zS} (hf : f_J0_length_8abf5_1000105  S = some R) : zC (ia_P0 L xs fm) (d + 2) 900003 [.ref 1000105] (h, t) (zQi D h0 t R) := by
  refine zC_of mt_900003 nn_900003 (Nat.le_of_ble_eq_true rfl) ?_
  refine zW_lv (lv' := [(0, .ref 1000105)]) rfl ?_
  unfold f_J0_length_8abf5_1000105 at hf
  refine z_aload_n dJ0_length_8abf5_0 rfl ?_
  refine z_getCC dJ0_length_8abf5_1 tF_900_9 (by decide) hn2 hc_1000105 rfl ?_
  refine z_alenC (v := 5) dJ0_length_8abf5_4 (by decide) hn2 hc_1000205 (by decide) (by decide) ?_
  refine z_aload_n dJ0_length_8abf5_5 rfl ?_
  obtain ⟨r2, S1, k3, hf⟩ := zb_some hf
  refine z_callVi dJ0_length_8abf5_6 tM_900_335 mt_900004 (Nat.le_of_ble_eq_true rfl) rfl rfl (z_recvC (hp := (h, t)) (by decide) hn2 hc_1000105) rfl (ia_oks_le hn1 rfl) (Nat.le_of_ble_eq_true rfl) (w_J0_coder_7d493_1000105 hn1 hn2 (d + 0) hE k3) (fun h hE => ?_)
  refine z_ishr dJ0_length_8abf5_9 ?_
  have e_ := Option.some.inj hf
  subst e_
  exact z_ireturn dJ0_length_8abf5_10 rfl ⟨h, rfl, rfl, hE⟩
def f_J1_indexOfChar_4cfef_1000205_L7 (ex : Int32 → zS → Option (Int32 × zS)) (i1 : Int32) (i2 : Int32) (i3 : Int32) (i4 : Int32) : Nat → Int32 → zS → Option (Int32 × zS)
  | 0, _, _ => none
  | k + 1, x5, S =>
    if i3 ≤ x5 then
    ex x5 S
    else
    if ia_in x5 5 = true then
    if ¬ (zc_1000205 x5.toNatClampNeg) = i4 then
    zl (x5 + 1) fun (y5 : Int32) =>
    f_J1_indexOfChar_4cfef_1000205_L7 ex i1 i2 i3 i4 k y5 S
    else
    some (x5, S)
    else none
def f_J1_indexOfChar_4cfef_1000205 (v1 : Int32) (v2 : Int32) (v3 : Int32) (S : zS) : Option (Int32 × zS) :=
zl (v1.toInt8.toInt32) fun (y1 : Int32) =>
f_J1_indexOfChar_4cfef_1000205_L7 (fun (q7 : Int32) (S6 : zS) =>
some ((-1), S6)) v1 v2 v3 y1 zN v2 S
theorem w_J1_indexOfChar_4cfef_1000205_L7 {L : Nat} {xs : Nat → Int32} {fm : Bool} {D : Nat → Option zD} {h0 : Nat → va_E} {t : Nat × Nat × Nat} (hn1 : 64 ≤ t.1) (hn2 : t.1 ≤ 1000000) (d : Nat) {ex : Int32 → zS → Option (Int32 × zS)} {i1 : Int32} {i2 : Int32} {i3 : Int32} {i4 : Int32} {R : Int32 × zS} (hex : ∀ (x5 : Int32) (S : zS) (h : Nat → va_E), zE D h0 S (h, t) → ex x5 S = some R → zW (ia_P0 L xs fm) ia_nx (d + 0) 901 false cJ1_indexOfChar_4cfef 6 (some .int) 31 [(0, .ref 1000205), (1, .int i1), (2, .int i2), (3, .int i3), (4, .int i4), (5, .int x5)] [] (h, t) (zQi D h0 t R)) : ∀ (k : Nat) (x5 : Int32) (S : zS) (h : Nat → va_E), zE D h0 S (h, t) → f_J1_indexOfChar_4cfef_1000205_L7 ex i1 i2 i3 i4 k x5 S = some R → zW (ia_P0 L xs fm) ia_nx (d + 0) 901 false cJ1_indexOfChar_4cfef 6 (some .int) 7 [(0, .ref 1000205), (1, .int i1), (2, .int i2), (3, .int i3), (4, .int i4), (5, .int x5)] [] (h, t) (zQi D h0 t R) := by
  intro k
  induction k with
  | zero => intro x5 S h hE hf; cases hf
  | succ k ih =>
    intro x5 S h hE hf
    unfold f_J1_indexOfChar_4cfef_1000205_L7 at hf
    refine z_iload dJ1_indexOfChar_4cfef_7 rfl ?_
    refine z_iload_n dJ1_indexOfChar_4cfef_9 rfl ?_
    by_cases c2 : i3 ≤ x5
    · have hf := zif_t hf c2
      refine z_icmp_ge_t (tgt := 31) dJ1_indexOfChar_4cfef_10 (by decide) c2 ?_
      exact zW.sub (hex x5 S _ hE hf) [0, 1, 2, 3, 4, 5] rfl rfl rfl rfl
    · have hf := zif_f hf c2
      refine z_icmp_ge_f (tgt := 31) dJ1_indexOfChar_4cfef_10 (by decide) c2 ?_
      refine z_aload_n dJ1_indexOfChar_4cfef_13 rfl ?_
      refine z_iload dJ1_indexOfChar_4cfef_14 rfl ?_
      obtain ⟨b3, hf⟩ := zchk hf
      refine z_baloadC dJ1_indexOfChar_4cfef_16 (by decide) hn2 hc_1000205 b3 ?_
      refine z_iload dJ1_indexOfChar_4cfef_17 rfl ?_
      by_cases c4 : ¬ (zc_1000205 x5.toNatClampNeg) = i4
      · have hf := zif_t hf c4
        refine z_icmp_ne_t (tgt := 25) dJ1_indexOfChar_4cfef_19 (by decide) c4 ?_
        obtain ⟨y5, ey5, hf⟩ := zl_some hf
        refine z_iincY (v := 1) (y := y5) (lv' := [(5, .int y5), (0, .ref 1000205), (1, .int i1), (2, .int i2), (3, .int i3), (4, .int i4)]) dJ1_indexOfChar_4cfef_25 rfl (by decide) (by decide) ey5 rfl ?_
        refine z_goto (tgt := 7) dJ1_indexOfChar_4cfef_28 (by decide) ?_
        exact zW.sub (ih y5 S _ hE hf) [1, 2, 3, 4, 5, 0] rfl rfl rfl rfl
      · have hf := zif_f hf c4
        refine z_icmp_ne_f (tgt := 25) dJ1_indexOfChar_4cfef_19 (by decide) c4 ?_
        refine z_iload dJ1_indexOfChar_4cfef_22 rfl ?_
        have e_ := Option.some.inj hf
        subst e_
        exact z_ireturn dJ1_indexOfChar_4cfef_24 rfl ⟨h, rfl, rfl, hE⟩
theorem w_J1_indexOfChar_4cfef_1000205 {L : Nat} {xs : Nat → Int32} {fm : Bool} {D : Nat → Option zD} {h0 : Nat → va_E} {t : Nat × Nat × Nat} (hn1 : 64 ≤ t.1) (hn2 : t.1 ≤ 1000000) (d : Nat) {h : Nat → va_E} {S : zS} (hE : zE D h0 S (h, t)) {v1 : Int32} {v2 : Int32} {v3 : Int32} {R : Int32 × zS} (hf : f_J1_indexOfChar_4cfef_1000205 v1 v2 v3 S = some R) : zC (ia_P0 L xs fm) (d + 1) 901002 [.ref 1000205, .int v1, .int v2, .int v3] (h, t) (zQi D h0 t R) := by
  refine zC_of mt_901002 nn_901002 (Nat.le_of_ble_eq_true rfl) ?_
  refine zW_lv (lv' := [(0, .ref 1000205), (1, .int v1), (2, .int v2), (3, .int v3)]) rfl ?_
  unfold f_J1_indexOfChar_4cfef_1000205 at hf
  refine z_iload_n dJ1_indexOfChar_4cfef_0 rfl ?_
  refine z_i2b dJ1_indexOfChar_4cfef_1 ?_
  obtain ⟨y1, ey1, hf⟩ := zl_some hf
  refine z_topi ey1 ?_
  refine z_istore (lv' := [(4, .int y1), (0, .ref 1000205), (1, .int v1), (2, .int v2), (3, .int v3)]) dJ1_indexOfChar_4cfef_2 (by decide) rfl ?_
  refine z_iload_n dJ1_indexOfChar_4cfef_4 rfl ?_
  refine z_istore (lv' := [(5, .int v2), (4, .int y1), (0, .ref 1000205), (1, .int v1), (2, .int v2), (3, .int v3)]) dJ1_indexOfChar_4cfef_5 (by decide) rfl ?_
  refine zW.sub (w_J1_indexOfChar_4cfef_1000205_L7 hn1 hn2 d (fun q7 S6 h hE hf => ?_) zN v2 S h hE hf) [2, 3, 4, 5, 1, 0] rfl rfl rfl rfl
  try dsimp only at hf
  refine z_iconst (v := (-1)) dJ1_indexOfChar_4cfef_31 (by decide) ?_
  have e_ := Option.some.inj hf
  subst e_
  exact z_ireturn dJ1_indexOfChar_4cfef_32 rfl ⟨h, rfl, rfl, hE⟩
def f_J1_indexOf_4cfef_1000205 (v1 : Int32) (v2 : Int32) (v3 : Int32) (S : zS) : Option (Int32 × zS) :=
zb (f_J1_canEncode_9a6ad v1 S) fun r2 S1 =>
if ¬ r2 = 0 then
zl (if v2 < 0 then 0 else v2) fun (y5 : Int32) =>
zl (if 5 < v3 then 5 else v3) fun (y6 : Int32) =>
if y5 < y6 then
zb (f_J1_indexOfChar_4cfef_1000205 v1 y5 y6 S1) fun r9 S8 =>
some (r9, S8)
else
some ((-1), S1)
else
some ((-1), S1)
theorem w_J1_indexOf_4cfef_1000205 {L : Nat} {xs : Nat → Int32} {fm : Bool} {D : Nat → Option zD} {h0 : Nat → va_E} {t : Nat × Nat × Nat} (hn1 : 64 ≤ t.1) (hn2 : t.1 ≤ 1000000) (d : Nat) {h : Nat → va_E} {S : zS} (hE : zE D h0 S (h, t)) {v1 : Int32} {v2 : Int32} {v3 : Int32} {R : Int32 × zS} (hf : f_J1_indexOf_4cfef_1000205 v1 v2 v3 S = some R) : zC (ia_P0 L xs fm) (d + 2) 901000 [.ref 1000205, .int v1, .int v2, .int v3] (h, t) (zQi D h0 t R) := by
  refine zC_of mt_901000 nn_901000 (Nat.le_of_ble_eq_true rfl) ?_
  refine zW_lv (lv' := [(0, .ref 1000205), (1, .int v1), (2, .int v2), (3, .int v3)]) rfl ?_
  unfold f_J1_indexOf_4cfef_1000205 at hf
  refine z_iload_n dJ1_indexOf_4cfef_0 rfl ?_
  obtain ⟨r2, S1, k3, hf⟩ := zb_some hf
  refine z_callSi dJ1_indexOf_4cfef_1 tM_901_88 (by decide) mt_901001 (Nat.le_of_ble_eq_true rfl) rfl rfl (ia_oks_le hn1 rfl) (Nat.le_of_ble_eq_true rfl) (w_J1_canEncode_9a6ad hn1 hn2 (d + 0) hE k3) (fun h hE => ?_)
  by_cases c4 : ¬ r2 = 0
  · have hf := zif_t hf c4
    refine z_if_ne_t (tgt := 9) dJ1_indexOf_4cfef_4 (by decide) c4 ?_
    refine z_iload_n dJ1_indexOf_4cfef_9 rfl ?_
    refine z_iconst (v := 0) dJ1_indexOf_4cfef_10 (by decide) ?_
    refine z_mmax dJ1_indexOf_4cfef_11 tM_901_92 (Nat.le_of_ble_eq_true rfl) ?_
    obtain ⟨y5, ey5, hf⟩ := zl_some hf
    refine z_topi ey5 ?_
    refine z_istore_n (lv' := [(2, .int y5), (0, .ref 1000205), (1, .int v1), (3, .int v3)]) dJ1_indexOf_4cfef_14 (by decide) rfl ?_
    refine z_iload_n dJ1_indexOf_4cfef_15 rfl ?_
    refine z_aload_n dJ1_indexOf_4cfef_16 rfl ?_
    refine z_alenC (v := 5) dJ1_indexOf_4cfef_17 (by decide) hn2 hc_1000205 (by decide) (by decide) ?_
    refine z_mmin dJ1_indexOf_4cfef_18 tM_901_38 (Nat.le_of_ble_eq_true rfl) ?_
    obtain ⟨y6, ey6, hf⟩ := zl_some hf
    refine z_topi ey6 ?_
    refine z_istore_n (lv' := [(3, .int y6), (2, .int y5), (0, .ref 1000205), (1, .int v1)]) dJ1_indexOf_4cfef_21 (by decide) rfl ?_
    refine z_iload_n dJ1_indexOf_4cfef_22 rfl ?_
    refine z_iload_n dJ1_indexOf_4cfef_23 rfl ?_
    by_cases c7 : y5 < y6
    · have hf := zif_t hf c7
      refine z_icmp_lt_t (tgt := 29) dJ1_indexOf_4cfef_24 (by decide) c7 ?_
      refine z_aload_n dJ1_indexOf_4cfef_29 rfl ?_
      refine z_iload_n dJ1_indexOf_4cfef_30 rfl ?_
      refine z_iload_n dJ1_indexOf_4cfef_31 rfl ?_
      refine z_iload_n dJ1_indexOf_4cfef_32 rfl ?_
      obtain ⟨r9, S8, k10, hf⟩ := zb_some hf
      refine z_callSi dJ1_indexOf_4cfef_33 tM_901_95 (by decide) mt_901002 (Nat.le_of_ble_eq_true rfl) rfl rfl (ia_oks_le hn1 rfl) (Nat.le_of_ble_eq_true rfl) (w_J1_indexOfChar_4cfef_1000205 hn1 hn2 (d + 0) hE k10) (fun h hE => ?_)
      have e_ := Option.some.inj hf
      subst e_
      exact z_ireturn dJ1_indexOf_4cfef_36 rfl ⟨h, rfl, rfl, hE⟩
    · have hf := zif_f hf c7
      refine z_icmp_lt_f (tgt := 29) dJ1_indexOf_4cfef_24 (by decide) c7 ?_
      refine z_iconst (v := (-1)) dJ1_indexOf_4cfef_27 (by decide) ?_
      have e_ := Option.some.inj hf
      subst e_
      exact z_ireturn dJ1_indexOf_4cfef_28 rfl ⟨h, rfl, rfl, hE⟩
  · have hf := zif_f hf c4
    refine z_if_ne_f (tgt := 9) dJ1_indexOf_4cfef_4 (by decide) c4 ?_
    refine z_iconst (v := (-1)) dJ1_indexOf_4cfef_7 (by decide) ?_
    have e_ := Option.some.inj hf
    subst e_
    exact z_ireturn dJ1_indexOf_4cfef_8 rfl ⟨h, rfl, rfl, hE⟩
def f_J0_indexOf_7cf53_1000105 (v1 : Int32) (v2 : Int32) (S : zS) : Option (Int32 × zS) :=
zb (f_J0_isLatin1_aae02_1000105 S) fun r2 S1 =>
if r2 = 0 then
zb (f_J0_length_8abf5_1000105 S1) fun r6 S5 =>
none
else
zb (f_J0_length_8abf5_1000105 S1) fun r9 S8 =>
zb (f_J1_indexOf_4cfef_1000205 v1 v2 r9 S8) fun r12 S11 =>
some (r12, S11)
theorem w_J0_indexOf_7cf53_1000105 {L : Nat} {xs : Nat → Int32} {fm : Bool} {D : Nat → Option zD} {h0 : Nat → va_E} {t : Nat × Nat × Nat} (hn1 : 64 ≤ t.1) (hn2 : t.1 ≤ 1000000) (d : Nat) {h : Nat → va_E} {S : zS} (hE : zE D h0 S (h, t)) {v1 : Int32} {v2 : Int32} {R : Int32 × zS} (hf : f_J0_indexOf_7cf53_1000105 v1 v2 S = some R) : zC (ia_P0 L xs fm) (d + 3) 900001 [.ref 1000105, .int v1, .int v2] (h, t) (zQi D h0 t R) := by
  refine zC_of mt_900001 nn_900001 (Nat.le_of_ble_eq_true rfl) ?_
  refine zW_lv (lv' := [(0, .ref 1000105), (1, .int v1), (2, .int v2)]) rfl ?_
  unfold f_J0_indexOf_7cf53_1000105 at hf
  refine z_aload_n dJ0_indexOf_7cf53_0 rfl ?_
  obtain ⟨r2, S1, k3, hf⟩ := zb_some hf
  refine z_callVi dJ0_indexOf_7cf53_1 tM_900_492 mt_900002 (Nat.le_of_ble_eq_true rfl) rfl rfl (z_recvC (hp := (h, t)) (by decide) hn2 hc_1000105) rfl (ia_oks_le hn1 rfl) (Nat.le_of_ble_eq_true rfl) (w_J0_isLatin1_aae02_1000105 hn1 hn2 (d + 1) hE k3) (fun h hE => ?_)
  by_cases c4 : r2 = 0
  · have hf := zif_t hf c4
    refine z_if_eq_t (tgt := 23) dJ0_indexOf_7cf53_4 (by decide) c4 ?_
    refine z_aload_n dJ0_indexOf_7cf53_23 rfl ?_
    refine z_getCC dJ0_indexOf_7cf53_24 tF_900_9 (by decide) hn2 hc_1000105 rfl ?_
    refine z_iload_n dJ0_indexOf_7cf53_27 rfl ?_
    refine z_iload_n dJ0_indexOf_7cf53_28 rfl ?_
    refine z_aload_n dJ0_indexOf_7cf53_29 rfl ?_
    obtain ⟨r6, S5, k7, hf⟩ := zb_some hf
    refine z_callVi dJ0_indexOf_7cf53_30 tM_900_505 mt_900003 (Nat.le_of_ble_eq_true rfl) rfl rfl (z_recvC (hp := (h, t)) (by decide) hn2 hc_1000105) rfl (ia_oks_le hn1 rfl) (Nat.le_of_ble_eq_true rfl) (w_J0_length_8abf5_1000105 hn1 hn2 (d + 0) hE k7) (fun h hE => ?_)
    cases hf
  · have hf := zif_f hf c4
    refine z_if_eq_f (tgt := 23) dJ0_indexOf_7cf53_4 (by decide) c4 ?_
    refine z_aload_n dJ0_indexOf_7cf53_7 rfl ?_
    refine z_getCC dJ0_indexOf_7cf53_8 tF_900_9 (by decide) hn2 hc_1000105 rfl ?_
    refine z_iload_n dJ0_indexOf_7cf53_11 rfl ?_
    refine z_iload_n dJ0_indexOf_7cf53_12 rfl ?_
    refine z_aload_n dJ0_indexOf_7cf53_13 rfl ?_
    obtain ⟨r9, S8, k10, hf⟩ := zb_some hf
    refine z_callVi dJ0_indexOf_7cf53_14 tM_900_505 mt_900003 (Nat.le_of_ble_eq_true rfl) rfl rfl (z_recvC (hp := (h, t)) (by decide) hn2 hc_1000105) rfl (ia_oks_le hn1 rfl) (Nat.le_of_ble_eq_true rfl) (w_J0_length_8abf5_1000105 hn1 hn2 (d + 0) hE k10) (fun h hE => ?_)
    obtain ⟨r12, S11, k13, hf⟩ := zb_some hf
    refine z_callSi dJ0_indexOf_7cf53_17 tM_900_637 (by decide) mt_901000 (Nat.le_of_ble_eq_true rfl) rfl rfl (ia_oks_le hn1 rfl) (Nat.le_of_ble_eq_true rfl) (w_J1_indexOf_4cfef_1000205 hn1 hn2 (d + 0) hE k13) (fun h hE => ?_)
    refine z_goto (tgt := 36) dJ0_indexOf_7cf53_20 (by decide) ?_
    have e_ := Option.some.inj hf
    subst e_
    exact z_ireturn dJ0_indexOf_7cf53_36 rfl ⟨h, rfl, rfl, hE⟩
def f_J0_indexOf_0f7a4_1000105 (v1 : Int32) (S : zS) : Option (Int32 × zS) :=
zb (f_J0_indexOf_7cf53_1000105 v1 0 S) fun r2 S1 =>
some (r2, S1)
theorem w_J0_indexOf_0f7a4_1000105 {L : Nat} {xs : Nat → Int32} {fm : Bool} {D : Nat → Option zD} {h0 : Nat → va_E} {t : Nat × Nat × Nat} (hn1 : 64 ≤ t.1) (hn2 : t.1 ≤ 1000000) (d : Nat) {h : Nat → va_E} {S : zS} (hE : zE D h0 S (h, t)) {v1 : Int32} {R : Int32 × zS} (hf : f_J0_indexOf_0f7a4_1000105 v1 S = some R) : zC (ia_P0 L xs fm) (d + 4) 900000 [.ref 1000105, .int v1] (h, t) (zQi D h0 t R) := by
  refine zC_of mt_900000 nn_900000 (Nat.le_of_ble_eq_true rfl) ?_
  refine zW_lv (lv' := [(0, .ref 1000105), (1, .int v1)]) rfl ?_
  unfold f_J0_indexOf_0f7a4_1000105 at hf
  refine z_aload_n dJ0_indexOf_0f7a4_0 rfl ?_
  refine z_iload_n dJ0_indexOf_0f7a4_1 rfl ?_
  refine z_iconst (v := 0) dJ0_indexOf_0f7a4_2 (by decide) ?_
  obtain ⟨r2, S1, k3, hf⟩ := zb_some hf
  refine z_callVi dJ0_indexOf_0f7a4_3 tM_900_633 mt_900001 (Nat.le_of_ble_eq_true rfl) rfl rfl (z_recvC (hp := (h, t)) (by decide) hn2 hc_1000105) rfl (ia_oks_le hn1 rfl) (Nat.le_of_ble_eq_true rfl) (w_J0_indexOf_7cf53_1000105 hn1 hn2 (d + 0) hE k3) (fun h hE => ?_)
  have e_ := Option.some.inj hf
  subst e_
  exact z_ireturn dJ0_indexOf_0f7a4_6 rfl ⟨h, rfl, rfl, hE⟩
def f_J6_bitCount_0f7a4 (v0 : Int32) (S : zS) : Option (Int32 × zS) :=
zl (v0 - (((v0.toUInt32 >>> ((1 : Int32).toUInt32 &&& Int32.toUInt32 31)).toInt32) &&& 1431655765)) fun (y1 : Int32) =>
zl ((y1 &&& 858993459) + (((y1.toUInt32 >>> ((2 : Int32).toUInt32 &&& Int32.toUInt32 31)).toInt32) &&& 858993459)) fun (y2 : Int32) =>
zl ((y2 + ((y2.toUInt32 >>> ((4 : Int32).toUInt32 &&& Int32.toUInt32 31)).toInt32)) &&& 252645135) fun (y3 : Int32) =>
zl (y3 + ((y3.toUInt32 >>> ((8 : Int32).toUInt32 &&& Int32.toUInt32 31)).toInt32)) fun (y4 : Int32) =>
zl (y4 + ((y4.toUInt32 >>> ((16 : Int32).toUInt32 &&& Int32.toUInt32 31)).toInt32)) fun (y5 : Int32) =>
some (y5 &&& 63, S)
theorem w_J6_bitCount_0f7a4 {L : Nat} {xs : Nat → Int32} {fm : Bool} {D : Nat → Option zD} {h0 : Nat → va_E} {t : Nat × Nat × Nat} (hn1 : 64 ≤ t.1) (hn2 : t.1 ≤ 1000000) (d : Nat) {h : Nat → va_E} {S : zS} (hE : zE D h0 S (h, t)) {v0 : Int32} {R : Int32 × zS} (hf : f_J6_bitCount_0f7a4 v0 S = some R) : zC (ia_P0 L xs fm) (d + 1) 903000 [.int v0] (h, t) (zQi D h0 t R) := by
  refine zC_of mt_903000 nn_903000 (Nat.le_of_ble_eq_true rfl) ?_
  refine zW_lv (lv' := [(0, .int v0)]) rfl ?_
  unfold f_J6_bitCount_0f7a4 at hf
  refine z_iload_n dJ6_bitCount_0f7a4_0 rfl ?_
  refine z_iload_n dJ6_bitCount_0f7a4_1 rfl ?_
  refine z_iconst (v := 1) dJ6_bitCount_0f7a4_2 (by decide) ?_
  refine z_iushr dJ6_bitCount_0f7a4_3 ?_
  refine z_ldcw dJ6_bitCount_0f7a4_4 tK_903_265 ?_
  refine z_iand dJ6_bitCount_0f7a4_7 ?_
  refine z_isub dJ6_bitCount_0f7a4_8 ?_
  obtain ⟨y1, ey1, hf⟩ := zl_some hf
  refine z_topi ey1 ?_
  refine z_istore_n (lv' := [(0, .int y1)]) dJ6_bitCount_0f7a4_9 (by decide) rfl ?_
  refine z_iload_n dJ6_bitCount_0f7a4_10 rfl ?_
  refine z_ldcw dJ6_bitCount_0f7a4_11 tK_903_266 ?_
  refine z_iand dJ6_bitCount_0f7a4_14 ?_
  refine z_iload_n dJ6_bitCount_0f7a4_15 rfl ?_
  refine z_iconst (v := 2) dJ6_bitCount_0f7a4_16 (by decide) ?_
  refine z_iushr dJ6_bitCount_0f7a4_17 ?_
  refine z_ldcw dJ6_bitCount_0f7a4_18 tK_903_266 ?_
  refine z_iand dJ6_bitCount_0f7a4_21 ?_
  refine z_iadd dJ6_bitCount_0f7a4_22 ?_
  obtain ⟨y2, ey2, hf⟩ := zl_some hf
  refine z_topi ey2 ?_
  refine z_istore_n (lv' := [(0, .int y2)]) dJ6_bitCount_0f7a4_23 (by decide) rfl ?_
  refine z_iload_n dJ6_bitCount_0f7a4_24 rfl ?_
  refine z_iload_n dJ6_bitCount_0f7a4_25 rfl ?_
  refine z_iconst (v := 4) dJ6_bitCount_0f7a4_26 (by decide) ?_
  refine z_iushr dJ6_bitCount_0f7a4_27 ?_
  refine z_iadd dJ6_bitCount_0f7a4_28 ?_
  refine z_ldcw dJ6_bitCount_0f7a4_29 tK_903_267 ?_
  refine z_iand dJ6_bitCount_0f7a4_32 ?_
  obtain ⟨y3, ey3, hf⟩ := zl_some hf
  refine z_topi ey3 ?_
  refine z_istore_n (lv' := [(0, .int y3)]) dJ6_bitCount_0f7a4_33 (by decide) rfl ?_
  refine z_iload_n dJ6_bitCount_0f7a4_34 rfl ?_
  refine z_iload_n dJ6_bitCount_0f7a4_35 rfl ?_
  refine z_bipush (v := 8) dJ6_bitCount_0f7a4_36 (by decide) ?_
  refine z_iushr dJ6_bitCount_0f7a4_38 ?_
  refine z_iadd dJ6_bitCount_0f7a4_39 ?_
  obtain ⟨y4, ey4, hf⟩ := zl_some hf
  refine z_topi ey4 ?_
  refine z_istore_n (lv' := [(0, .int y4)]) dJ6_bitCount_0f7a4_40 (by decide) rfl ?_
  refine z_iload_n dJ6_bitCount_0f7a4_41 rfl ?_
  refine z_iload_n dJ6_bitCount_0f7a4_42 rfl ?_
  refine z_bipush (v := 16) dJ6_bitCount_0f7a4_43 (by decide) ?_
  refine z_iushr dJ6_bitCount_0f7a4_45 ?_
  refine z_iadd dJ6_bitCount_0f7a4_46 ?_
  obtain ⟨y5, ey5, hf⟩ := zl_some hf
  refine z_topi ey5 ?_
  refine z_istore_n (lv' := [(0, .int y5)]) dJ6_bitCount_0f7a4_47 (by decide) rfl ?_
  refine z_iload_n dJ6_bitCount_0f7a4_48 rfl ?_
  refine z_bipush (v := 63) dJ6_bitCount_0f7a4_49 (by decide) ?_
  refine z_iand dJ6_bitCount_0f7a4_51 ?_
  have e_ := Option.some.inj hf
  subst e_
  exact z_ireturn dJ6_bitCount_0f7a4_52 rfl ⟨h, rfl, rfl, hE⟩
def f_J3_checkIndex_8e157 (v0 : Int32) (v1 : Int32) (S : zS) : Option (Int32 × zS) :=
zl (fun (u3 : Unit) =>
none) fun J2 =>
if v0 < 0 then
J2 ()
else
if v0 < v1 then
some (v0, S)
else
J2 ()
theorem w_J3_checkIndex_8e157 {L : Nat} {xs : Nat → Int32} {fm : Bool} {D : Nat → Option zD} {h0 : Nat → va_E} {t : Nat × Nat × Nat} (hn1 : 64 ≤ t.1) (hn2 : t.1 ≤ 1000000) (d : Nat) {h : Nat → va_E} {S : zS} (hE : zE D h0 S (h, t)) {v0 : Int32} {v1 : Int32} {R : Int32 × zS} (hf : f_J3_checkIndex_8e157 v0 v1 S = some R) : zC (ia_P0 L xs fm) (d + 1) 905001 [.int v0, .int v1, zfm fm] (h, t) (zQi D h0 t R) := by
  refine zC_of mt_905001 nn_905001 (by cases fm <;> exact Nat.le_of_ble_eq_true rfl) ?_
  refine zW_lv (lv' := [(0, .int v0), (1, .int v1), (2, zfm fm)]) rfl ?_
  unfold f_J3_checkIndex_8e157 at hf
  refine z_iload_n dJ3_checkIndex_8e157_0 rfl ?_
  obtain ⟨J2, eJ2, hf⟩ := zl_some hf
  have hJ2 : ∀ (u3 : Unit) (h : Nat → va_E), zE D h0 S (h, t) → J2 u3 = some R → zW (ia_P0 L xs fm) ia_nx (d + 0) 905 false cJ3_checkIndex_8e157 3 (some .int) 9 [(0, .int v0), (1, .int v1), (2, zfm fm)] [] (h, t) (zQi D h0 t R) := by
    intro u3 h hE hf
    rw [eJ2] at hf
    cases hf
  by_cases c1 : v0 < 0
  · have hf := zif_t hf c1
    refine z_if_lt_t (tgt := 9) dJ3_checkIndex_8e157_1 (by decide) c1 ?_
    exact zW.sub (hJ2 () _ hE hf) [0, 1, 2] rfl rfl rfl (by cases fm <;> rfl)
  · have hf := zif_f hf c1
    refine z_if_lt_f (tgt := 9) dJ3_checkIndex_8e157_1 (by decide) c1 ?_
    refine z_iload_n dJ3_checkIndex_8e157_4 rfl ?_
    refine z_iload_n dJ3_checkIndex_8e157_5 rfl ?_
    by_cases c4 : v0 < v1
    · have hf := zif_t hf c4
      refine z_icmp_lt_t (tgt := 16) dJ3_checkIndex_8e157_6 (by decide) c4 ?_
      refine z_iload_n dJ3_checkIndex_8e157_16 rfl ?_
      have e_ := Option.some.inj hf
      subst e_
      exact z_ireturn dJ3_checkIndex_8e157_17 rfl ⟨h, rfl, rfl, hE⟩
    · have hf := zif_f hf c4
      refine z_icmp_lt_f (tgt := 16) dJ3_checkIndex_8e157_6 (by decide) c4 ?_
      exact zW.sub (hJ2 () _ hE hf) [0, 1, 2] rfl rfl rfl (by cases fm <;> rfl)
def f_J0_checkIndex_df160 (v0 : Int32) (v1 : Int32) (S : zS) : Option (Unit × zS) :=
zb (f_J3_checkIndex_8e157 v0 v1 S) fun r2 S1 =>
some ((), S1)
theorem w_J0_checkIndex_df160 {L : Nat} {xs : Nat → Int32} {fm : Bool} {D : Nat → Option zD} {h0 : Nat → va_E} {t : Nat × Nat × Nat} (hn1 : 64 ≤ t.1) (hn2 : t.1 ≤ 1000000) (d : Nat) {h : Nat → va_E} {S : zS} (hE : zE D h0 S (h, t)) {v0 : Int32} {v1 : Int32} {R : Unit × zS} (hf : f_J0_checkIndex_df160 v0 v1 S = some R) : zC (ia_P0 L xs fm) (d + 2) 900007 [.int v0, .int v1] (h, t) (zQv D h0 t R) := by
  refine zC_of mt_900007 nn_900007 (Nat.le_of_ble_eq_true rfl) ?_
  refine zW_lv (lv' := [(0, .int v0), (1, .int v1)]) rfl ?_
  unfold f_J0_checkIndex_df160 at hf
  refine z_iload_n dJ0_checkIndex_df160_0 rfl ?_
  refine z_iload_n dJ0_checkIndex_df160_1 rfl ?_
  refine z_getstatic dJ0_checkIndex_df160_2 tS_900_1053 ?_
  obtain ⟨r2, S1, k3, hf⟩ := zb_some hf
  refine z_callSi dJ0_checkIndex_df160_5 tM_900_1059 (by decide) mt_905001 (Nat.le_of_ble_eq_true rfl) rfl rfl (ia_oks_le hn1 rfl) (Nat.le_of_ble_eq_true rfl) (w_J3_checkIndex_8e157 hn1 hn2 (d + 0) hE k3) (fun h hE => ?_)
  refine z_pop dJ0_checkIndex_df160_8 rfl ?_
  have e_ := Option.some.inj hf
  subst e_
  exact z_vreturn dJ0_checkIndex_df160_9 rfl ⟨h, rfl, rfl, hE⟩
def f_J1_charAt_3b067_1000203 (v1 : Int32) (S : zS) : Option (Int32 × zS) :=
zb (f_J0_checkIndex_df160 v1 2 S) fun _ S1 =>
if ia_in v1 2 = true then
if 0 ≤ ((((zc_1000203 v1.toNatClampNeg) &&& 255).toUInt32 % 65536).toInt32).toInt ∧ ((((zc_1000203 v1.toNatClampNeg) &&& 255).toUInt32 % 65536).toInt32).toInt ≤ 65535 then some ((((zc_1000203 v1.toNatClampNeg) &&& 255).toUInt32 % 65536).toInt32, S1) else none
else none
theorem w_J1_charAt_3b067_1000203 {L : Nat} {xs : Nat → Int32} {fm : Bool} {D : Nat → Option zD} {h0 : Nat → va_E} {t : Nat × Nat × Nat} (hn1 : 64 ≤ t.1) (hn2 : t.1 ≤ 1000000) (d : Nat) {h : Nat → va_E} {S : zS} (hE : zE D h0 S (h, t)) {v1 : Int32} {R : Int32 × zS} (hf : f_J1_charAt_3b067_1000203 v1 S = some R) : zC (ia_P0 L xs fm) (d + 3) 901003 [.ref 1000203, .int v1] (h, t) (zQi D h0 t R) := by
  refine zC_of mt_901003 nn_901003 (Nat.le_of_ble_eq_true rfl) ?_
  refine zW_lv (lv' := [(0, .ref 1000203), (1, .int v1)]) rfl ?_
  unfold f_J1_charAt_3b067_1000203 at hf
  refine z_iload_n dJ1_charAt_3b067_0 rfl ?_
  refine z_aload_n dJ1_charAt_3b067_1 rfl ?_
  refine z_alenC (v := 2) dJ1_charAt_3b067_2 (by decide) hn2 hc_1000203 (by decide) (by decide) ?_
  obtain ⟨r2, S1, k3, hf⟩ := zb_some hf
  refine z_callSv dJ1_charAt_3b067_3 tM_901_9 (by decide) mt_900007 (Nat.le_of_ble_eq_true rfl) rfl rfl (ia_oks_le hn1 rfl) (Nat.le_of_ble_eq_true rfl) (w_J0_checkIndex_df160 hn1 hn2 (d + 0) hE k3) (fun h hE => ?_)
  refine z_aload_n dJ1_charAt_3b067_6 rfl ?_
  refine z_iload_n dJ1_charAt_3b067_7 rfl ?_
  obtain ⟨b4, hf⟩ := zchk hf
  refine z_baloadC dJ1_charAt_3b067_8 (by decide) hn2 hc_1000203 b4 ?_
  refine z_sipush (v := 255) dJ1_charAt_3b067_9 (by decide) ?_
  refine z_iand dJ1_charAt_3b067_12 ?_
  refine z_i2c dJ1_charAt_3b067_13 ?_
  obtain ⟨b5, hf⟩ := zchk hf
  have e_ := Option.some.inj hf
  subst e_
  exact z_creturn dJ1_charAt_3b067_14 rfl b5 ⟨h, rfl, rfl, hE⟩
def f_J0_charAt_5068e_1000103 (v1 : Int32) (S : zS) : Option (Int32 × zS) :=
zb (f_J0_isLatin1_aae02_1000103 S) fun r2 S1 =>
if r2 = 0 then
none
else
zb (f_J1_charAt_3b067_1000203 v1 S1) fun r6 S5 =>
if 0 ≤ (r6).toInt ∧ (r6).toInt ≤ 65535 then some (r6, S5) else none
theorem w_J0_charAt_5068e_1000103 {L : Nat} {xs : Nat → Int32} {fm : Bool} {D : Nat → Option zD} {h0 : Nat → va_E} {t : Nat × Nat × Nat} (hn1 : 64 ≤ t.1) (hn2 : t.1 ≤ 1000000) (d : Nat) {h : Nat → va_E} {S : zS} (hE : zE D h0 S (h, t)) {v1 : Int32} {R : Int32 × zS} (hf : f_J0_charAt_5068e_1000103 v1 S = some R) : zC (ia_P0 L xs fm) (d + 4) 900006 [.ref 1000103, .int v1] (h, t) (zQi D h0 t R) := by
  refine zC_of mt_900006 nn_900006 (Nat.le_of_ble_eq_true rfl) ?_
  refine zW_lv (lv' := [(0, .ref 1000103), (1, .int v1)]) rfl ?_
  unfold f_J0_charAt_5068e_1000103 at hf
  refine z_aload_n dJ0_charAt_5068e_0 rfl ?_
  obtain ⟨r2, S1, k3, hf⟩ := zb_some hf
  refine z_callVi dJ0_charAt_5068e_1 tM_900_492 mt_900002 (Nat.le_of_ble_eq_true rfl) rfl rfl (z_recvC (hp := (h, t)) (by decide) hn2 hc_1000103) rfl (ia_oks_le hn1 rfl) (Nat.le_of_ble_eq_true rfl) (w_J0_isLatin1_aae02_1000103 hn1 hn2 (d + 2) hE k3) (fun h hE => ?_)
  by_cases c4 : r2 = 0
  · have hf := zif_t hf c4
    refine z_if_eq_t (tgt := 16) dJ0_charAt_5068e_4 (by decide) c4 ?_
    refine z_aload_n dJ0_charAt_5068e_16 rfl ?_
    refine z_getCC dJ0_charAt_5068e_17 tF_900_9 (by decide) hn2 hc_1000103 rfl ?_
    refine z_iload_n dJ0_charAt_5068e_20 rfl ?_
    cases hf
  · have hf := zif_f hf c4
    refine z_if_eq_f (tgt := 16) dJ0_charAt_5068e_4 (by decide) c4 ?_
    refine z_aload_n dJ0_charAt_5068e_7 rfl ?_
    refine z_getCC dJ0_charAt_5068e_8 tF_900_9 (by decide) hn2 hc_1000103 rfl ?_
    refine z_iload_n dJ0_charAt_5068e_11 rfl ?_
    obtain ⟨r6, S5, k7, hf⟩ := zb_some hf
    refine z_callSi dJ0_charAt_5068e_12 tM_900_495 (by decide) mt_901003 (Nat.le_of_ble_eq_true rfl) rfl rfl (ia_oks_le hn1 rfl) (Nat.le_of_ble_eq_true rfl) (w_J1_charAt_3b067_1000203 hn1 hn2 (d + 0) hE k7) (fun h hE => ?_)
    obtain ⟨b8, hf⟩ := zchk hf
    have e_ := Option.some.inj hf
    subst e_
    exact z_creturn dJ0_charAt_5068e_15 rfl b8 ⟨h, rfl, rfl, hE⟩
def f_J1_charAt_3b067_1000202 (v1 : Int32) (S : zS) : Option (Int32 × zS) :=
zb (f_J0_checkIndex_df160 v1 5 S) fun _ S1 =>
if ia_in v1 5 = true then
if 0 ≤ ((((zc_1000202 v1.toNatClampNeg) &&& 255).toUInt32 % 65536).toInt32).toInt ∧ ((((zc_1000202 v1.toNatClampNeg) &&& 255).toUInt32 % 65536).toInt32).toInt ≤ 65535 then some ((((zc_1000202 v1.toNatClampNeg) &&& 255).toUInt32 % 65536).toInt32, S1) else none
else none
theorem w_J1_charAt_3b067_1000202 {L : Nat} {xs : Nat → Int32} {fm : Bool} {D : Nat → Option zD} {h0 : Nat → va_E} {t : Nat × Nat × Nat} (hn1 : 64 ≤ t.1) (hn2 : t.1 ≤ 1000000) (d : Nat) {h : Nat → va_E} {S : zS} (hE : zE D h0 S (h, t)) {v1 : Int32} {R : Int32 × zS} (hf : f_J1_charAt_3b067_1000202 v1 S = some R) : zC (ia_P0 L xs fm) (d + 3) 901003 [.ref 1000202, .int v1] (h, t) (zQi D h0 t R) := by
  refine zC_of mt_901003 nn_901003 (Nat.le_of_ble_eq_true rfl) ?_
  refine zW_lv (lv' := [(0, .ref 1000202), (1, .int v1)]) rfl ?_
  unfold f_J1_charAt_3b067_1000202 at hf
  refine z_iload_n dJ1_charAt_3b067_0 rfl ?_
  refine z_aload_n dJ1_charAt_3b067_1 rfl ?_
  refine z_alenC (v := 5) dJ1_charAt_3b067_2 (by decide) hn2 hc_1000202 (by decide) (by decide) ?_
  obtain ⟨r2, S1, k3, hf⟩ := zb_some hf
  refine z_callSv dJ1_charAt_3b067_3 tM_901_9 (by decide) mt_900007 (Nat.le_of_ble_eq_true rfl) rfl rfl (ia_oks_le hn1 rfl) (Nat.le_of_ble_eq_true rfl) (w_J0_checkIndex_df160 hn1 hn2 (d + 0) hE k3) (fun h hE => ?_)
  refine z_aload_n dJ1_charAt_3b067_6 rfl ?_
  refine z_iload_n dJ1_charAt_3b067_7 rfl ?_
  obtain ⟨b4, hf⟩ := zchk hf
  refine z_baloadC dJ1_charAt_3b067_8 (by decide) hn2 hc_1000202 b4 ?_
  refine z_sipush (v := 255) dJ1_charAt_3b067_9 (by decide) ?_
  refine z_iand dJ1_charAt_3b067_12 ?_
  refine z_i2c dJ1_charAt_3b067_13 ?_
  obtain ⟨b5, hf⟩ := zchk hf
  have e_ := Option.some.inj hf
  subst e_
  exact z_creturn dJ1_charAt_3b067_14 rfl b5 ⟨h, rfl, rfl, hE⟩
def f_J0_charAt_5068e_1000102 (v1 : Int32) (S : zS) : Option (Int32 × zS) :=
zb (f_J0_isLatin1_aae02_1000102 S) fun r2 S1 =>
if r2 = 0 then
none
else
zb (f_J1_charAt_3b067_1000202 v1 S1) fun r6 S5 =>
if 0 ≤ (r6).toInt ∧ (r6).toInt ≤ 65535 then some (r6, S5) else none
theorem w_J0_charAt_5068e_1000102 {L : Nat} {xs : Nat → Int32} {fm : Bool} {D : Nat → Option zD} {h0 : Nat → va_E} {t : Nat × Nat × Nat} (hn1 : 64 ≤ t.1) (hn2 : t.1 ≤ 1000000) (d : Nat) {h : Nat → va_E} {S : zS} (hE : zE D h0 S (h, t)) {v1 : Int32} {R : Int32 × zS} (hf : f_J0_charAt_5068e_1000102 v1 S = some R) : zC (ia_P0 L xs fm) (d + 4) 900006 [.ref 1000102, .int v1] (h, t) (zQi D h0 t R) := by
  refine zC_of mt_900006 nn_900006 (Nat.le_of_ble_eq_true rfl) ?_
  refine zW_lv (lv' := [(0, .ref 1000102), (1, .int v1)]) rfl ?_
  unfold f_J0_charAt_5068e_1000102 at hf
  refine z_aload_n dJ0_charAt_5068e_0 rfl ?_
  obtain ⟨r2, S1, k3, hf⟩ := zb_some hf
  refine z_callVi dJ0_charAt_5068e_1 tM_900_492 mt_900002 (Nat.le_of_ble_eq_true rfl) rfl rfl (z_recvC (hp := (h, t)) (by decide) hn2 hc_1000102) rfl (ia_oks_le hn1 rfl) (Nat.le_of_ble_eq_true rfl) (w_J0_isLatin1_aae02_1000102 hn1 hn2 (d + 2) hE k3) (fun h hE => ?_)
  by_cases c4 : r2 = 0
  · have hf := zif_t hf c4
    refine z_if_eq_t (tgt := 16) dJ0_charAt_5068e_4 (by decide) c4 ?_
    refine z_aload_n dJ0_charAt_5068e_16 rfl ?_
    refine z_getCC dJ0_charAt_5068e_17 tF_900_9 (by decide) hn2 hc_1000102 rfl ?_
    refine z_iload_n dJ0_charAt_5068e_20 rfl ?_
    cases hf
  · have hf := zif_f hf c4
    refine z_if_eq_f (tgt := 16) dJ0_charAt_5068e_4 (by decide) c4 ?_
    refine z_aload_n dJ0_charAt_5068e_7 rfl ?_
    refine z_getCC dJ0_charAt_5068e_8 tF_900_9 (by decide) hn2 hc_1000102 rfl ?_
    refine z_iload_n dJ0_charAt_5068e_11 rfl ?_
    obtain ⟨r6, S5, k7, hf⟩ := zb_some hf
    refine z_callSi dJ0_charAt_5068e_12 tM_900_495 (by decide) mt_901003 (Nat.le_of_ble_eq_true rfl) rfl rfl (ia_oks_le hn1 rfl) (Nat.le_of_ble_eq_true rfl) (w_J1_charAt_3b067_1000202 hn1 hn2 (d + 0) hE k7) (fun h hE => ?_)
    obtain ⟨b8, hf⟩ := zchk hf
    have e_ := Option.some.inj hf
    subst e_
    exact z_creturn dJ0_charAt_5068e_15 rfl b8 ⟨h, rfl, rfl, hE⟩
def f_J1_charAt_3b067_1000201 (v1 : Int32) (S : zS) : Option (Int32 × zS) :=
zb (f_J0_checkIndex_df160 v1 6 S) fun _ S1 =>
if ia_in v1 6 = true then
if 0 ≤ ((((zc_1000201 v1.toNatClampNeg) &&& 255).toUInt32 % 65536).toInt32).toInt ∧ ((((zc_1000201 v1.toNatClampNeg) &&& 255).toUInt32 % 65536).toInt32).toInt ≤ 65535 then some ((((zc_1000201 v1.toNatClampNeg) &&& 255).toUInt32 % 65536).toInt32, S1) else none
else none
theorem w_J1_charAt_3b067_1000201 {L : Nat} {xs : Nat → Int32} {fm : Bool} {D : Nat → Option zD} {h0 : Nat → va_E} {t : Nat × Nat × Nat} (hn1 : 64 ≤ t.1) (hn2 : t.1 ≤ 1000000) (d : Nat) {h : Nat → va_E} {S : zS} (hE : zE D h0 S (h, t)) {v1 : Int32} {R : Int32 × zS} (hf : f_J1_charAt_3b067_1000201 v1 S = some R) : zC (ia_P0 L xs fm) (d + 3) 901003 [.ref 1000201, .int v1] (h, t) (zQi D h0 t R) := by
  refine zC_of mt_901003 nn_901003 (Nat.le_of_ble_eq_true rfl) ?_
  refine zW_lv (lv' := [(0, .ref 1000201), (1, .int v1)]) rfl ?_
  unfold f_J1_charAt_3b067_1000201 at hf
  refine z_iload_n dJ1_charAt_3b067_0 rfl ?_
  refine z_aload_n dJ1_charAt_3b067_1 rfl ?_
  refine z_alenC (v := 6) dJ1_charAt_3b067_2 (by decide) hn2 hc_1000201 (by decide) (by decide) ?_
  obtain ⟨r2, S1, k3, hf⟩ := zb_some hf
  refine z_callSv dJ1_charAt_3b067_3 tM_901_9 (by decide) mt_900007 (Nat.le_of_ble_eq_true rfl) rfl rfl (ia_oks_le hn1 rfl) (Nat.le_of_ble_eq_true rfl) (w_J0_checkIndex_df160 hn1 hn2 (d + 0) hE k3) (fun h hE => ?_)
  refine z_aload_n dJ1_charAt_3b067_6 rfl ?_
  refine z_iload_n dJ1_charAt_3b067_7 rfl ?_
  obtain ⟨b4, hf⟩ := zchk hf
  refine z_baloadC dJ1_charAt_3b067_8 (by decide) hn2 hc_1000201 b4 ?_
  refine z_sipush (v := 255) dJ1_charAt_3b067_9 (by decide) ?_
  refine z_iand dJ1_charAt_3b067_12 ?_
  refine z_i2c dJ1_charAt_3b067_13 ?_
  obtain ⟨b5, hf⟩ := zchk hf
  have e_ := Option.some.inj hf
  subst e_
  exact z_creturn dJ1_charAt_3b067_14 rfl b5 ⟨h, rfl, rfl, hE⟩
def f_J0_charAt_5068e_1000101 (v1 : Int32) (S : zS) : Option (Int32 × zS) :=
zb (f_J0_isLatin1_aae02_1000101 S) fun r2 S1 =>
if r2 = 0 then
none
else
zb (f_J1_charAt_3b067_1000201 v1 S1) fun r6 S5 =>
if 0 ≤ (r6).toInt ∧ (r6).toInt ≤ 65535 then some (r6, S5) else none
theorem w_J0_charAt_5068e_1000101 {L : Nat} {xs : Nat → Int32} {fm : Bool} {D : Nat → Option zD} {h0 : Nat → va_E} {t : Nat × Nat × Nat} (hn1 : 64 ≤ t.1) (hn2 : t.1 ≤ 1000000) (d : Nat) {h : Nat → va_E} {S : zS} (hE : zE D h0 S (h, t)) {v1 : Int32} {R : Int32 × zS} (hf : f_J0_charAt_5068e_1000101 v1 S = some R) : zC (ia_P0 L xs fm) (d + 4) 900006 [.ref 1000101, .int v1] (h, t) (zQi D h0 t R) := by
  refine zC_of mt_900006 nn_900006 (Nat.le_of_ble_eq_true rfl) ?_
  refine zW_lv (lv' := [(0, .ref 1000101), (1, .int v1)]) rfl ?_
  unfold f_J0_charAt_5068e_1000101 at hf
  refine z_aload_n dJ0_charAt_5068e_0 rfl ?_
  obtain ⟨r2, S1, k3, hf⟩ := zb_some hf
  refine z_callVi dJ0_charAt_5068e_1 tM_900_492 mt_900002 (Nat.le_of_ble_eq_true rfl) rfl rfl (z_recvC (hp := (h, t)) (by decide) hn2 hc_1000101) rfl (ia_oks_le hn1 rfl) (Nat.le_of_ble_eq_true rfl) (w_J0_isLatin1_aae02_1000101 hn1 hn2 (d + 2) hE k3) (fun h hE => ?_)
  by_cases c4 : r2 = 0
  · have hf := zif_t hf c4
    refine z_if_eq_t (tgt := 16) dJ0_charAt_5068e_4 (by decide) c4 ?_
    refine z_aload_n dJ0_charAt_5068e_16 rfl ?_
    refine z_getCC dJ0_charAt_5068e_17 tF_900_9 (by decide) hn2 hc_1000101 rfl ?_
    refine z_iload_n dJ0_charAt_5068e_20 rfl ?_
    cases hf
  · have hf := zif_f hf c4
    refine z_if_eq_f (tgt := 16) dJ0_charAt_5068e_4 (by decide) c4 ?_
    refine z_aload_n dJ0_charAt_5068e_7 rfl ?_
    refine z_getCC dJ0_charAt_5068e_8 tF_900_9 (by decide) hn2 hc_1000101 rfl ?_
    refine z_iload_n dJ0_charAt_5068e_11 rfl ?_
    obtain ⟨r6, S5, k7, hf⟩ := zb_some hf
    refine z_callSi dJ0_charAt_5068e_12 tM_900_495 (by decide) mt_901003 (Nat.le_of_ble_eq_true rfl) rfl rfl (ia_oks_le hn1 rfl) (Nat.le_of_ble_eq_true rfl) (w_J1_charAt_3b067_1000201 hn1 hn2 (d + 0) hE k7) (fun h hE => ?_)
    obtain ⟨b8, hf⟩ := zchk hf
    have e_ := Option.some.inj hf
    subst e_
    exact z_creturn dJ0_charAt_5068e_15 rfl b8 ⟨h, rfl, rfl, hE⟩
def f_J0_coder_7d493_1000106  (S : zS) : Option (Int32 × zS) :=
some (0, S)
theorem w_J0_coder_7d493_1000106 {L : Nat} {xs : Nat → Int32} {fm : Bool} {D : Nat → Option zD} {h0 : Nat → va_E} {t : Nat × Nat × Nat} (hn1 : 64 ≤ t.1) (hn2 : t.1 ≤ 1000000) (d : Nat) {h : Nat → va_E} {S : zS} (hE : zE D h0 S (h, t)) {R : Int32 × zS} (hf : f_J0_coder_7d493_1000106  S = some R) : zC (ia_P0 L xs fm) (d + 1) 900004 [.ref 1000106] (h, t) (zQi D h0 t R) := by
  refine zC_of mt_900004 nn_900004 (Nat.le_of_ble_eq_true rfl) ?_
  refine zW_lv (lv' := [(0, .ref 1000106)]) rfl ?_
  unfold f_J0_coder_7d493_1000106 at hf
  refine z_getstatic dJ0_coder_7d493_0 tS_900_38 ?_
  refine z_if_eq_f (tgt := 13) dJ0_coder_7d493_3 (by decide) (by decide) ?_
  refine z_aload_n dJ0_coder_7d493_6 rfl ?_
  refine z_getCC dJ0_coder_7d493_7 tF_900_15 (by decide) hn2 hc_1000106 rfl ?_
  refine z_goto (tgt := 14) dJ0_coder_7d493_10 (by decide) ?_
  have e_ := Option.some.inj hf
  subst e_
  exact z_breturn dJ0_coder_7d493_14 rfl (by decide) ⟨h, rfl, rfl, hE⟩
def f_J0_length_8abf5_1000106  (S : zS) : Option (Int32 × zS) :=
zb (f_J0_coder_7d493_1000106 S) fun r2 S1 =>
some (1 >>> (r2 &&& 31), S1)
theorem w_J0_length_8abf5_1000106 {L : Nat} {xs : Nat → Int32} {fm : Bool} {D : Nat → Option zD} {h0 : Nat → va_E} {t : Nat × Nat × Nat} (hn1 : 64 ≤ t.1) (hn2 : t.1 ≤ 1000000) (d : Nat) {h : Nat → va_E} {S : zS} (hE : zE D h0 S (h, t)) {R : Int32 × zS} (hf : f_J0_length_8abf5_1000106  S = some R) : zC (ia_P0 L xs fm) (d + 2) 900003 [.ref 1000106] (h, t) (zQi D h0 t R) := by
  refine zC_of mt_900003 nn_900003 (Nat.le_of_ble_eq_true rfl) ?_
  refine zW_lv (lv' := [(0, .ref 1000106)]) rfl ?_
  unfold f_J0_length_8abf5_1000106 at hf
  refine z_aload_n dJ0_length_8abf5_0 rfl ?_
  refine z_getCC dJ0_length_8abf5_1 tF_900_9 (by decide) hn2 hc_1000106 rfl ?_
  refine z_alenC (v := 1) dJ0_length_8abf5_4 (by decide) hn2 hc_1000206 (by decide) (by decide) ?_
  refine z_aload_n dJ0_length_8abf5_5 rfl ?_
  obtain ⟨r2, S1, k3, hf⟩ := zb_some hf
  refine z_callVi dJ0_length_8abf5_6 tM_900_335 mt_900004 (Nat.le_of_ble_eq_true rfl) rfl rfl (z_recvC (hp := (h, t)) (by decide) hn2 hc_1000106) rfl (ia_oks_le hn1 rfl) (Nat.le_of_ble_eq_true rfl) (w_J0_coder_7d493_1000106 hn1 hn2 (d + 0) hE k3) (fun h hE => ?_)
  refine z_ishr dJ0_length_8abf5_9 ?_
  have e_ := Option.some.inj hf
  subst e_
  exact z_ireturn dJ0_length_8abf5_10 rfl ⟨h, rfl, rfl, hE⟩
def f_J0_isLatin1_aae02_1000106  (S : zS) : Option (Int32 × zS) :=
some (1, S)
theorem w_J0_isLatin1_aae02_1000106 {L : Nat} {xs : Nat → Int32} {fm : Bool} {D : Nat → Option zD} {h0 : Nat → va_E} {t : Nat × Nat × Nat} (hn1 : 64 ≤ t.1) (hn2 : t.1 ≤ 1000000) (d : Nat) {h : Nat → va_E} {S : zS} (hE : zE D h0 S (h, t)) {R : Int32 × zS} (hf : f_J0_isLatin1_aae02_1000106  S = some R) : zC (ia_P0 L xs fm) (d + 1) 900002 [.ref 1000106] (h, t) (zQi D h0 t R) := by
  refine zC_of mt_900002 nn_900002 (Nat.le_of_ble_eq_true rfl) ?_
  refine zW_lv (lv' := [(0, .ref 1000106)]) rfl ?_
  unfold f_J0_isLatin1_aae02_1000106 at hf
  refine z_getstatic dJ0_isLatin1_aae02_0 tS_900_38 ?_
  refine z_if_eq_f (tgt := 17) dJ0_isLatin1_aae02_3 (by decide) (by decide) ?_
  refine z_aload_n dJ0_isLatin1_aae02_6 rfl ?_
  refine z_getCC dJ0_isLatin1_aae02_7 tF_900_15 (by decide) hn2 hc_1000106 rfl ?_
  refine z_if_ne_f (tgt := 17) dJ0_isLatin1_aae02_10 (by decide) (by decide) ?_
  refine z_iconst (v := 1) dJ0_isLatin1_aae02_13 (by decide) ?_
  refine z_goto (tgt := 18) dJ0_isLatin1_aae02_14 (by decide) ?_
  have e_ := Option.some.inj hf
  subst e_
  exact z_zreturn dJ0_isLatin1_aae02_18 rfl (by decide) ⟨h, rfl, rfl, hE⟩
def f_J1_charAt_3b067_1000206 (v1 : Int32) (S : zS) : Option (Int32 × zS) :=
zb (f_J0_checkIndex_df160 v1 1 S) fun _ S1 =>
if ia_in v1 1 = true then
if 0 ≤ ((((zc_1000206 v1.toNatClampNeg) &&& 255).toUInt32 % 65536).toInt32).toInt ∧ ((((zc_1000206 v1.toNatClampNeg) &&& 255).toUInt32 % 65536).toInt32).toInt ≤ 65535 then some ((((zc_1000206 v1.toNatClampNeg) &&& 255).toUInt32 % 65536).toInt32, S1) else none
else none
theorem w_J1_charAt_3b067_1000206 {L : Nat} {xs : Nat → Int32} {fm : Bool} {D : Nat → Option zD} {h0 : Nat → va_E} {t : Nat × Nat × Nat} (hn1 : 64 ≤ t.1) (hn2 : t.1 ≤ 1000000) (d : Nat) {h : Nat → va_E} {S : zS} (hE : zE D h0 S (h, t)) {v1 : Int32} {R : Int32 × zS} (hf : f_J1_charAt_3b067_1000206 v1 S = some R) : zC (ia_P0 L xs fm) (d + 3) 901003 [.ref 1000206, .int v1] (h, t) (zQi D h0 t R) := by
  refine zC_of mt_901003 nn_901003 (Nat.le_of_ble_eq_true rfl) ?_
  refine zW_lv (lv' := [(0, .ref 1000206), (1, .int v1)]) rfl ?_
  unfold f_J1_charAt_3b067_1000206 at hf
  refine z_iload_n dJ1_charAt_3b067_0 rfl ?_
  refine z_aload_n dJ1_charAt_3b067_1 rfl ?_
  refine z_alenC (v := 1) dJ1_charAt_3b067_2 (by decide) hn2 hc_1000206 (by decide) (by decide) ?_
  obtain ⟨r2, S1, k3, hf⟩ := zb_some hf
  refine z_callSv dJ1_charAt_3b067_3 tM_901_9 (by decide) mt_900007 (Nat.le_of_ble_eq_true rfl) rfl rfl (ia_oks_le hn1 rfl) (Nat.le_of_ble_eq_true rfl) (w_J0_checkIndex_df160 hn1 hn2 (d + 0) hE k3) (fun h hE => ?_)
  refine z_aload_n dJ1_charAt_3b067_6 rfl ?_
  refine z_iload_n dJ1_charAt_3b067_7 rfl ?_
  obtain ⟨b4, hf⟩ := zchk hf
  refine z_baloadC dJ1_charAt_3b067_8 (by decide) hn2 hc_1000206 b4 ?_
  refine z_sipush (v := 255) dJ1_charAt_3b067_9 (by decide) ?_
  refine z_iand dJ1_charAt_3b067_12 ?_
  refine z_i2c dJ1_charAt_3b067_13 ?_
  obtain ⟨b5, hf⟩ := zchk hf
  have e_ := Option.some.inj hf
  subst e_
  exact z_creturn dJ1_charAt_3b067_14 rfl b5 ⟨h, rfl, rfl, hE⟩
def f_J0_charAt_5068e_1000106 (v1 : Int32) (S : zS) : Option (Int32 × zS) :=
zb (f_J0_isLatin1_aae02_1000106 S) fun r2 S1 =>
if r2 = 0 then
none
else
zb (f_J1_charAt_3b067_1000206 v1 S1) fun r6 S5 =>
if 0 ≤ (r6).toInt ∧ (r6).toInt ≤ 65535 then some (r6, S5) else none
theorem w_J0_charAt_5068e_1000106 {L : Nat} {xs : Nat → Int32} {fm : Bool} {D : Nat → Option zD} {h0 : Nat → va_E} {t : Nat × Nat × Nat} (hn1 : 64 ≤ t.1) (hn2 : t.1 ≤ 1000000) (d : Nat) {h : Nat → va_E} {S : zS} (hE : zE D h0 S (h, t)) {v1 : Int32} {R : Int32 × zS} (hf : f_J0_charAt_5068e_1000106 v1 S = some R) : zC (ia_P0 L xs fm) (d + 4) 900006 [.ref 1000106, .int v1] (h, t) (zQi D h0 t R) := by
  refine zC_of mt_900006 nn_900006 (Nat.le_of_ble_eq_true rfl) ?_
  refine zW_lv (lv' := [(0, .ref 1000106), (1, .int v1)]) rfl ?_
  unfold f_J0_charAt_5068e_1000106 at hf
  refine z_aload_n dJ0_charAt_5068e_0 rfl ?_
  obtain ⟨r2, S1, k3, hf⟩ := zb_some hf
  refine z_callVi dJ0_charAt_5068e_1 tM_900_492 mt_900002 (Nat.le_of_ble_eq_true rfl) rfl rfl (z_recvC (hp := (h, t)) (by decide) hn2 hc_1000106) rfl (ia_oks_le hn1 rfl) (Nat.le_of_ble_eq_true rfl) (w_J0_isLatin1_aae02_1000106 hn1 hn2 (d + 2) hE k3) (fun h hE => ?_)
  by_cases c4 : r2 = 0
  · have hf := zif_t hf c4
    refine z_if_eq_t (tgt := 16) dJ0_charAt_5068e_4 (by decide) c4 ?_
    refine z_aload_n dJ0_charAt_5068e_16 rfl ?_
    refine z_getCC dJ0_charAt_5068e_17 tF_900_9 (by decide) hn2 hc_1000106 rfl ?_
    refine z_iload_n dJ0_charAt_5068e_20 rfl ?_
    cases hf
  · have hf := zif_f hf c4
    refine z_if_eq_f (tgt := 16) dJ0_charAt_5068e_4 (by decide) c4 ?_
    refine z_aload_n dJ0_charAt_5068e_7 rfl ?_
    refine z_getCC dJ0_charAt_5068e_8 tF_900_9 (by decide) hn2 hc_1000106 rfl ?_
    refine z_iload_n dJ0_charAt_5068e_11 rfl ?_
    obtain ⟨r6, S5, k7, hf⟩ := zb_some hf
    refine z_callSi dJ0_charAt_5068e_12 tM_900_495 (by decide) mt_901003 (Nat.le_of_ble_eq_true rfl) rfl rfl (ia_oks_le hn1 rfl) (Nat.le_of_ble_eq_true rfl) (w_J1_charAt_3b067_1000206 hn1 hn2 (d + 0) hE k7) (fun h hE => ?_)
    obtain ⟨b8, hf⟩ := zchk hf
    have e_ := Option.some.inj hf
    subst e_
    exact z_creturn dJ0_charAt_5068e_15 rfl b8 ⟨h, rfl, rfl, hE⟩
def f_J1_charAt_3b067_1000204 (v1 : Int32) (S : zS) : Option (Int32 × zS) :=
zb (f_J0_checkIndex_df160 v1 6 S) fun _ S1 =>
if ia_in v1 6 = true then
if 0 ≤ ((((zc_1000204 v1.toNatClampNeg) &&& 255).toUInt32 % 65536).toInt32).toInt ∧ ((((zc_1000204 v1.toNatClampNeg) &&& 255).toUInt32 % 65536).toInt32).toInt ≤ 65535 then some ((((zc_1000204 v1.toNatClampNeg) &&& 255).toUInt32 % 65536).toInt32, S1) else none
else none
theorem w_J1_charAt_3b067_1000204 {L : Nat} {xs : Nat → Int32} {fm : Bool} {D : Nat → Option zD} {h0 : Nat → va_E} {t : Nat × Nat × Nat} (hn1 : 64 ≤ t.1) (hn2 : t.1 ≤ 1000000) (d : Nat) {h : Nat → va_E} {S : zS} (hE : zE D h0 S (h, t)) {v1 : Int32} {R : Int32 × zS} (hf : f_J1_charAt_3b067_1000204 v1 S = some R) : zC (ia_P0 L xs fm) (d + 3) 901003 [.ref 1000204, .int v1] (h, t) (zQi D h0 t R) := by
  refine zC_of mt_901003 nn_901003 (Nat.le_of_ble_eq_true rfl) ?_
  refine zW_lv (lv' := [(0, .ref 1000204), (1, .int v1)]) rfl ?_
  unfold f_J1_charAt_3b067_1000204 at hf
  refine z_iload_n dJ1_charAt_3b067_0 rfl ?_
  refine z_aload_n dJ1_charAt_3b067_1 rfl ?_
  refine z_alenC (v := 6) dJ1_charAt_3b067_2 (by decide) hn2 hc_1000204 (by decide) (by decide) ?_
  obtain ⟨r2, S1, k3, hf⟩ := zb_some hf
  refine z_callSv dJ1_charAt_3b067_3 tM_901_9 (by decide) mt_900007 (Nat.le_of_ble_eq_true rfl) rfl rfl (ia_oks_le hn1 rfl) (Nat.le_of_ble_eq_true rfl) (w_J0_checkIndex_df160 hn1 hn2 (d + 0) hE k3) (fun h hE => ?_)
  refine z_aload_n dJ1_charAt_3b067_6 rfl ?_
  refine z_iload_n dJ1_charAt_3b067_7 rfl ?_
  obtain ⟨b4, hf⟩ := zchk hf
  refine z_baloadC dJ1_charAt_3b067_8 (by decide) hn2 hc_1000204 b4 ?_
  refine z_sipush (v := 255) dJ1_charAt_3b067_9 (by decide) ?_
  refine z_iand dJ1_charAt_3b067_12 ?_
  refine z_i2c dJ1_charAt_3b067_13 ?_
  obtain ⟨b5, hf⟩ := zchk hf
  have e_ := Option.some.inj hf
  subst e_
  exact z_creturn dJ1_charAt_3b067_14 rfl b5 ⟨h, rfl, rfl, hE⟩
def f_J0_charAt_5068e_1000104 (v1 : Int32) (S : zS) : Option (Int32 × zS) :=
zb (f_J0_isLatin1_aae02_1000104 S) fun r2 S1 =>
if r2 = 0 then
none
else
zb (f_J1_charAt_3b067_1000204 v1 S1) fun r6 S5 =>
if 0 ≤ (r6).toInt ∧ (r6).toInt ≤ 65535 then some (r6, S5) else none
theorem w_J0_charAt_5068e_1000104 {L : Nat} {xs : Nat → Int32} {fm : Bool} {D : Nat → Option zD} {h0 : Nat → va_E} {t : Nat × Nat × Nat} (hn1 : 64 ≤ t.1) (hn2 : t.1 ≤ 1000000) (d : Nat) {h : Nat → va_E} {S : zS} (hE : zE D h0 S (h, t)) {v1 : Int32} {R : Int32 × zS} (hf : f_J0_charAt_5068e_1000104 v1 S = some R) : zC (ia_P0 L xs fm) (d + 4) 900006 [.ref 1000104, .int v1] (h, t) (zQi D h0 t R) := by
  refine zC_of mt_900006 nn_900006 (Nat.le_of_ble_eq_true rfl) ?_
  refine zW_lv (lv' := [(0, .ref 1000104), (1, .int v1)]) rfl ?_
  unfold f_J0_charAt_5068e_1000104 at hf
  refine z_aload_n dJ0_charAt_5068e_0 rfl ?_
  obtain ⟨r2, S1, k3, hf⟩ := zb_some hf
  refine z_callVi dJ0_charAt_5068e_1 tM_900_492 mt_900002 (Nat.le_of_ble_eq_true rfl) rfl rfl (z_recvC (hp := (h, t)) (by decide) hn2 hc_1000104) rfl (ia_oks_le hn1 rfl) (Nat.le_of_ble_eq_true rfl) (w_J0_isLatin1_aae02_1000104 hn1 hn2 (d + 2) hE k3) (fun h hE => ?_)
  by_cases c4 : r2 = 0
  · have hf := zif_t hf c4
    refine z_if_eq_t (tgt := 16) dJ0_charAt_5068e_4 (by decide) c4 ?_
    refine z_aload_n dJ0_charAt_5068e_16 rfl ?_
    refine z_getCC dJ0_charAt_5068e_17 tF_900_9 (by decide) hn2 hc_1000104 rfl ?_
    refine z_iload_n dJ0_charAt_5068e_20 rfl ?_
    cases hf
  · have hf := zif_f hf c4
    refine z_if_eq_f (tgt := 16) dJ0_charAt_5068e_4 (by decide) c4 ?_
    refine z_aload_n dJ0_charAt_5068e_7 rfl ?_
    refine z_getCC dJ0_charAt_5068e_8 tF_900_9 (by decide) hn2 hc_1000104 rfl ?_
    refine z_iload_n dJ0_charAt_5068e_11 rfl ?_
    obtain ⟨r6, S5, k7, hf⟩ := zb_some hf
    refine z_callSi dJ0_charAt_5068e_12 tM_900_495 (by decide) mt_901003 (Nat.le_of_ble_eq_true rfl) rfl rfl (ia_oks_le hn1 rfl) (Nat.le_of_ble_eq_true rfl) (w_J1_charAt_3b067_1000204 hn1 hn2 (d + 0) hE k7) (fun h hE => ?_)
    obtain ⟨b8, hf⟩ := zchk hf
    have e_ := Option.some.inj hf
    subst e_
    exact z_creturn dJ0_charAt_5068e_15 rfl b8 ⟨h, rfl, rfl, hE⟩
def f_J1_charAt_3b067_1000205 (v1 : Int32) (S : zS) : Option (Int32 × zS) :=
zb (f_J0_checkIndex_df160 v1 5 S) fun _ S1 =>
if ia_in v1 5 = true then
if 0 ≤ ((((zc_1000205 v1.toNatClampNeg) &&& 255).toUInt32 % 65536).toInt32).toInt ∧ ((((zc_1000205 v1.toNatClampNeg) &&& 255).toUInt32 % 65536).toInt32).toInt ≤ 65535 then some ((((zc_1000205 v1.toNatClampNeg) &&& 255).toUInt32 % 65536).toInt32, S1) else none
else none
theorem w_J1_charAt_3b067_1000205 {L : Nat} {xs : Nat → Int32} {fm : Bool} {D : Nat → Option zD} {h0 : Nat → va_E} {t : Nat × Nat × Nat} (hn1 : 64 ≤ t.1) (hn2 : t.1 ≤ 1000000) (d : Nat) {h : Nat → va_E} {S : zS} (hE : zE D h0 S (h, t)) {v1 : Int32} {R : Int32 × zS} (hf : f_J1_charAt_3b067_1000205 v1 S = some R) : zC (ia_P0 L xs fm) (d + 3) 901003 [.ref 1000205, .int v1] (h, t) (zQi D h0 t R) := by
  refine zC_of mt_901003 nn_901003 (Nat.le_of_ble_eq_true rfl) ?_
  refine zW_lv (lv' := [(0, .ref 1000205), (1, .int v1)]) rfl ?_
  unfold f_J1_charAt_3b067_1000205 at hf
  refine z_iload_n dJ1_charAt_3b067_0 rfl ?_
  refine z_aload_n dJ1_charAt_3b067_1 rfl ?_
  refine z_alenC (v := 5) dJ1_charAt_3b067_2 (by decide) hn2 hc_1000205 (by decide) (by decide) ?_
  obtain ⟨r2, S1, k3, hf⟩ := zb_some hf
  refine z_callSv dJ1_charAt_3b067_3 tM_901_9 (by decide) mt_900007 (Nat.le_of_ble_eq_true rfl) rfl rfl (ia_oks_le hn1 rfl) (Nat.le_of_ble_eq_true rfl) (w_J0_checkIndex_df160 hn1 hn2 (d + 0) hE k3) (fun h hE => ?_)
  refine z_aload_n dJ1_charAt_3b067_6 rfl ?_
  refine z_iload_n dJ1_charAt_3b067_7 rfl ?_
  obtain ⟨b4, hf⟩ := zchk hf
  refine z_baloadC dJ1_charAt_3b067_8 (by decide) hn2 hc_1000205 b4 ?_
  refine z_sipush (v := 255) dJ1_charAt_3b067_9 (by decide) ?_
  refine z_iand dJ1_charAt_3b067_12 ?_
  refine z_i2c dJ1_charAt_3b067_13 ?_
  obtain ⟨b5, hf⟩ := zchk hf
  have e_ := Option.some.inj hf
  subst e_
  exact z_creturn dJ1_charAt_3b067_14 rfl b5 ⟨h, rfl, rfl, hE⟩
def f_J0_charAt_5068e_1000105 (v1 : Int32) (S : zS) : Option (Int32 × zS) :=
zb (f_J0_isLatin1_aae02_1000105 S) fun r2 S1 =>
if r2 = 0 then
none
else
zb (f_J1_charAt_3b067_1000205 v1 S1) fun r6 S5 =>
if 0 ≤ (r6).toInt ∧ (r6).toInt ≤ 65535 then some (r6, S5) else none
theorem w_J0_charAt_5068e_1000105 {L : Nat} {xs : Nat → Int32} {fm : Bool} {D : Nat → Option zD} {h0 : Nat → va_E} {t : Nat × Nat × Nat} (hn1 : 64 ≤ t.1) (hn2 : t.1 ≤ 1000000) (d : Nat) {h : Nat → va_E} {S : zS} (hE : zE D h0 S (h, t)) {v1 : Int32} {R : Int32 × zS} (hf : f_J0_charAt_5068e_1000105 v1 S = some R) : zC (ia_P0 L xs fm) (d + 4) 900006 [.ref 1000105, .int v1] (h, t) (zQi D h0 t R) := by
  refine zC_of mt_900006 nn_900006 (Nat.le_of_ble_eq_true rfl) ?_
  refine zW_lv (lv' := [(0, .ref 1000105), (1, .int v1)]) rfl ?_
  unfold f_J0_charAt_5068e_1000105 at hf
  refine z_aload_n dJ0_charAt_5068e_0 rfl ?_
  obtain ⟨r2, S1, k3, hf⟩ := zb_some hf
  refine z_callVi dJ0_charAt_5068e_1 tM_900_492 mt_900002 (Nat.le_of_ble_eq_true rfl) rfl rfl (z_recvC (hp := (h, t)) (by decide) hn2 hc_1000105) rfl (ia_oks_le hn1 rfl) (Nat.le_of_ble_eq_true rfl) (w_J0_isLatin1_aae02_1000105 hn1 hn2 (d + 2) hE k3) (fun h hE => ?_)
  by_cases c4 : r2 = 0
  · have hf := zif_t hf c4
    refine z_if_eq_t (tgt := 16) dJ0_charAt_5068e_4 (by decide) c4 ?_
    refine z_aload_n dJ0_charAt_5068e_16 rfl ?_
    refine z_getCC dJ0_charAt_5068e_17 tF_900_9 (by decide) hn2 hc_1000105 rfl ?_
    refine z_iload_n dJ0_charAt_5068e_20 rfl ?_
    cases hf
  · have hf := zif_f hf c4
    refine z_if_eq_f (tgt := 16) dJ0_charAt_5068e_4 (by decide) c4 ?_
    refine z_aload_n dJ0_charAt_5068e_7 rfl ?_
    refine z_getCC dJ0_charAt_5068e_8 tF_900_9 (by decide) hn2 hc_1000105 rfl ?_
    refine z_iload_n dJ0_charAt_5068e_11 rfl ?_
    obtain ⟨r6, S5, k7, hf⟩ := zb_some hf
    refine z_callSi dJ0_charAt_5068e_12 tM_900_495 (by decide) mt_901003 (Nat.le_of_ble_eq_true rfl) rfl rfl (ia_oks_le hn1 rfl) (Nat.le_of_ble_eq_true rfl) (w_J1_charAt_3b067_1000205 hn1 hn2 (d + 0) hE k7) (fun h hE => ?_)
    obtain ⟨b8, hf⟩ := zchk hf
    have e_ := Option.some.inj hf
    subst e_
    exact z_creturn dJ0_charAt_5068e_15 rfl b8 ⟨h, rfl, rfl, hE⟩
end ZX
