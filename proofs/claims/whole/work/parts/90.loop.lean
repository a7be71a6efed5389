/-! the law's loop (written by gen90.py); the case of jar is given. -/
section NH
variable {L : Nat} {xs : Nat → Int32} {fm : Bool} {M d i nL : Nat} {hp : ia_H} {A B : zS} {ex : Nat → List Value → ia_H → Option (List Value × ia_H)} {Q : Option Value → ia_H → Prop} {e : Option (Int32 × Int32)}
theorem and63 (v : Int32) : ∃ k, k < 64 ∧ v &&& 63 = Int32.ofNat k := by
  have e : (v &&& 63).toBitVec = v.toBitVec &&& 63#32 := rfl
  have l : (v &&& 63).toBitVec.toNat < 64 := by
    rw [e, BitVec.toNat_and]
    exact Nat.lt_succ_of_le Nat.and_le_right
  refine ⟨(v &&& 63).toBitVec.toNat, l, ti_ofn ?_⟩
  show (v &&& 63).toBitVec.toInt = _
  exact BitVec.toInt_eq_toNat_of_lt (by omega)
def JarC (L : Nat) (xs : Nat → Int32) (fm : Bool) (ex : Nat → List Value → ia_H → Option (List Value × ia_H)) (d nL : Nat) (Q : Option Value → ia_H → Prop) : Prop := ∀ (M i : Nat) (e : Option (Int32 × Int32)) (hp : ia_H) (A B : zS), Both A B hp → Inv M A B → M < 900000 → hp.2.1 < 999998 → i + 5 < L → (∀ e2 h2 A2 B2, Both A2 B2 h2 → Inv (M + 1000) A2 B2 → (h2.2.1 ≤ hp.2.1 + 1 ∧ h2.2.2.1 ≤ hp.2.2.1 + 1000 ∧ h2.2.2.2 ≤ hp.2.2.2 + 10000) → zW (ia_P0 L xs fm) ex (d + 150) 13 false cL_law nL (some .boolean) 1657 (lwLv e2 (i + 6)) [] h2 Q) → zW (ia_P0 L xs fm) ex (d + 150) 13 false cL_law nL (some .boolean) 376 (lwLv e i) [] hp Q
theorem lw_case (h5 : 4 < nL) (H : Both A B hp) (I : Inv M A B) (hM : M < 900000) (hn : hp.2.1 < 999998) (hi : i + 5 < L) (hL : L < 1000000) (hx : ∀ pc st hp, pc ≠ 390 → ex pc st hp = none) (hJ : JarC L xs fm ex d nL Q) (hQ : (∀ e2 h2 A2 B2, Both A2 B2 h2 → Inv (M + 1000) A2 B2 → (h2.2.1 ≤ hp.2.1 + 1 ∧ h2.2.2.1 ≤ hp.2.2.1 + 1000 ∧ h2.2.2.2 ≤ hp.2.2.2 + 10000) → zW (ia_P0 L xs fm) ex (d + 150) 13 false cL_law nL (some .boolean) 1657 (lwLv e2 (i + 6)) [] h2 Q)) {x : Int32} {k : Nat} (hk : k < 64) (ek : x = Int32.ofNat k) : zW (ia_P0 L xs fm) ex (d + 150) 13 false cL_law nL (some .boolean) 40 (lwLv e i) [.int x] hp Q := by
  have hq : ∀ h2 A2 B2, Both A2 B2 h2 → Inv (M + 1000) A2 B2 → (h2.2.1 ≤ hp.2.1 + 1 ∧ h2.2.2.1 ≤ hp.2.2.1 + 1 ∧ h2.2.2.2 ≤ hp.2.2.2 + 202) → zW (ia_P0 L xs fm) ex (d + 150) 13 false cL_law nL (some .boolean) 1654 (lwLv e i) [] h2 Q := fun h2 A2 B2 q1 q2 q3 => z_iinc (v := 6) (lv' := lwLv e (i + 6)) dL_law_1654 lw_g4 h5 (by decide) (by rw [show Int32.ofNat i + 6 = Int32.ofNat (i + 6) from ix_aa i 6]; exact lw_s4) (hQ e h2 A2 B2 q1 q2 ⟨q3.1, by omega, by omega⟩)
  have tx : x.toInt = k := by rw [ek, ti_nat (by omega)]
  by_cases c : 42 < k
  · exact z_tabO (tgt := 1654) dL_law_40 (Or.inr (by rw [tx]; omega)) (by decide) (hq hp A B H (by obtain ⟨a, b, c, I⟩ := I; exact ⟨a, b, c, I.mono (by omega)⟩) ⟨Nat.le_succ _, Nat.le_succ _, Nat.le_add_right _ _⟩)
  have hx0 : ¬ (x.toInt < 0 ∨ 42 < x.toInt) := by rw [tx]; omega
  have e0 : (x.toInt - 0).toNat = k := by rw [tx]; omega
  rcases (show k = 0 ∨ k = 1 ∨ k = 2 ∨ k = 3 ∨ k = 4 ∨ k = 5 ∨ k = 6 ∨ k = 7 ∨ k = 8 ∨ k = 9 ∨ k = 10 ∨ k = 11 ∨ k = 12 ∨ k = 13 ∨ k = 14 ∨ k = 15 ∨ k = 16 ∨ k = 17 ∨ k = 18 ∨ k = 19 ∨ k = 20 ∨ k = 21 ∨ k = 22 ∨ k = 23 ∨ k = 24 ∨ k = 25 ∨ k = 26 ∨ k = 27 ∨ k = 28 ∨ k = 29 ∨ k = 30 ∨ k = 31 ∨ k = 32 ∨ k = 33 ∨ k = 34 ∨ k = 35 ∨ k = 36 ∨ k = 37 ∨ k = 38 ∨ k = 39 ∨ k = 40 ∨ k = 41 ∨ k = 42 by omega) with rfl | rfl | rfl | rfl | rfl | rfl | rfl | rfl | rfl | rfl | rfl | rfl | rfl | rfl | rfl | rfl | rfl | rfl | rfl | rfl | rfl | rfl | rfl | rfl | rfl | rfl | rfl | rfl | rfl | rfl | rfl | rfl | rfl | rfl | rfl | rfl | rfl | rfl | rfl | rfl | rfl | rfl | rfl
  · exact z_tabI (off := 188) (tgt := 228) dL_law_40 hx0 (by rw [e0]; rfl) (by decide) (lc_feed H I hM hn hi hL hx hq)
  · exact z_tabI (off := 261) (tgt := 301) dL_law_40 hx0 (by rw [e0]; rfl) (by decide) (lc_end H I hM hn hi hL hx hq)
  · exact z_tabI (off := 286) (tgt := 326) dL_law_40 hx0 (by rw [e0]; rfl) (by decide) (lc_fault H I hM hn hi hL hx hq)
  · exact z_tabI (off := 311) (tgt := 351) dL_law_40 hx0 (by rw [e0]; rfl) (by decide) (lc_text H I hM hn hi hL hx hq)
  · exact z_tabI (off := 336) (tgt := 376) dL_law_40 hx0 (by rw [e0]; rfl) (by decide) (hJ M i e hp A B H I hM hn hi hQ)
  · exact z_tabI (off := 404) (tgt := 444) dL_law_40 hx0 (by rw [e0]; rfl) (by decide) (lc_hand H I hM hn hi hL hx hq)
  · exact z_tabI (off := 441) (tgt := 481) dL_law_40 hx0 (by rw [e0]; rfl) (by decide) (lc_tool H I hM hn hi hL hx hq)
  · exact z_tabI (off := 478) (tgt := 518) dL_law_40 hx0 (by rw [e0]; rfl) (by decide) (lc_law H I hM hn hi hL hx hq)
  · exact z_tabI (off := 503) (tgt := 543) dL_law_40 hx0 (by rw [e0]; rfl) (by decide) (lc_step H I hM hn hi hL hx hq)
  · exact z_tabI (off := 540) (tgt := 580) dL_law_40 hx0 (by rw [e0]; rfl) (by decide) (lc_grip H I hM hn hi hL hx hq)
  · exact z_tabI (off := 589) (tgt := 629) dL_law_40 hx0 (by rw [e0]; rfl) (by decide) (lc_lacks H I hM hn hi hL hx hq)
  · exact z_tabI (off := 638) (tgt := 678) dL_law_40 hx0 (by rw [e0]; rfl) (by decide) (lc_turn H I hM hn hi hL hx hq)
  · exact z_tabI (off := 687) (tgt := 727) dL_law_40 hx0 (by rw [e0]; rfl) (by decide) (lc_heat H I hM hn hi hL hx hq)
  · exact z_tabI (off := 712) (tgt := 752) dL_law_40 hx0 (by rw [e0]; rfl) (by decide) (lc_work H I hM hn hi hL hx hq)
  · exact z_tabI (off := 737) (tgt := 777) dL_law_40 hx0 (by rw [e0]; rfl) (by decide) (lc_dry H I hM hn hi hL hx hq)
  · exact z_tabI (off := 762) (tgt := 802) dL_law_40 hx0 (by rw [e0]; rfl) (by decide) (lc_pause H I hM hn hi hL hx hq)
  · exact z_tabI (off := 787) (tgt := 827) dL_law_40 hx0 (by rw [e0]; rfl) (by decide) (lc_shut H I hM hn hi hL hx hq)
  · exact z_tabI (off := 812) (tgt := 852) dL_law_40 hx0 (by rw [e0]; rfl) (by decide) (lc_table H I hM hn hi hL hx hq)
  · exact z_tabI (off := 837) (tgt := 877) dL_law_40 hx0 (by rw [e0]; rfl) (by decide) (lc_undo H I hM hn hi hL hx hq)
  · exact z_tabI (off := 850) (tgt := 890) dL_law_40 hx0 (by rw [e0]; rfl) (by decide) (lc_soonest H I hM hn hi hL hx hq)
  · exact z_tabI (off := 915) (tgt := 955) dL_law_40 hx0 (by rw [e0]; rfl) (by decide) (lc_order H I hM hn hi hL hx hq)
  · exact z_tabI (off := 940) (tgt := 980) dL_law_40 hx0 (by rw [e0]; rfl) (by decide) (lc_run H I hM hn hi hL hx hq)
  · exact z_tabI (off := 977) (tgt := 1017) dL_law_40 hx0 (by rw [e0]; rfl) (by decide) (lc_best H I hM hn hi hL hx hq)
  · exact z_tabI (off := 1018) (tgt := 1058) dL_law_40 hx0 (by rw [e0]; rfl) (by decide) (lc_opens H I hM hn hi hL hx hq)
  · exact z_tabI (off := 1043) (tgt := 1083) dL_law_40 hx0 (by rw [e0]; rfl) (by decide) (lc_share H I hM hn hi hL hx hq)
  · exact z_tabI (off := 1068) (tgt := 1108) dL_law_40 hx0 (by rw [e0]; rfl) (by decide) (lc_cheapest H I hM hn hi hL hx hq)
  · exact z_tabI (off := 1093) (tgt := 1133) dL_law_40 hx0 (by rw [e0]; rfl) (by decide) (lc_safe H I hM hn hi hL hx hq)
  · exact z_tabI (off := 1106) (tgt := 1146) dL_law_40 hx0 (by rw [e0]; rfl) (by decide) (lc_enough H I hM hn hi hL hx hq)
  · exact z_tabI (off := 1143) (tgt := 1183) dL_law_40 hx0 (by rw [e0]; rfl) (by decide) (lc_saves H I hM hn hi hL hx hq)
  · exact z_tabI (off := 1180) (tgt := 1220) dL_law_40 hx0 (by rw [e0]; rfl) (by decide) (lc_openers H I hM hn hi hL hx hq)
  · exact z_tabI (off := 1217) (tgt := 1257) dL_law_40 hx0 (by rw [e0]; rfl) (by decide) (lc_factory H I hM hn hi hL hx hq)
  · exact z_tabI (off := 1266) (tgt := 1306) dL_law_40 hx0 (by rw [e0]; rfl) (by decide) (lc_tried H I hM hn hi hL hx hq)
  · exact z_tabI (off := 1319) (tgt := 1359) dL_law_40 hx0 (by rw [e0]; rfl) (by decide) (lc_forgive H I hM hn hi hL hx hq)
  · exact z_tabI (off := 1332) (tgt := 1372) dL_law_40 hx0 (by rw [e0]; rfl) (by decide) (lc_tight H I hM hn hi hL hx hq)
  · exact z_tabI (off := 1357) (tgt := 1397) dL_law_40 hx0 (by rw [e0]; rfl) (by decide) (lc_next H I hM hn hi hL hx hq)
  · exact z_tabI (off := 1382) (tgt := 1422) dL_law_40 hx0 (by rw [e0]; rfl) (by decide) (lc_who H I hM hn hi hL hx hq)
  · exact z_tabI (off := 1419) (tgt := 1459) dL_law_40 hx0 (by rw [e0]; rfl) (by decide) (lc_lefties H I hM hn hi hL hx hq)
  · exact z_tabI (off := 1432) (tgt := 1472) dL_law_40 hx0 (by rw [e0]; rfl) (by decide) (lc_evening H I hM hn hi hL hx hq)
  · exact z_tabI (off := 1501) (tgt := 1541) dL_law_40 hx0 (by rw [e0]; rfl) (by decide) (lc_perform H I hM hn hi hL hx hq)
  · exact z_tabI (off := 1526) (tgt := 1566) dL_law_40 hx0 (by rw [e0]; rfl) (by decide) (lc_log H I hM hn hi hL hx hq)
  · exact z_tabI (off := 1563) (tgt := 1603) dL_law_40 hx0 (by rw [e0]; rfl) (by decide) (lc_image H I hM hn hi hL hx hq)
  · exact z_tabI (off := 1576) (tgt := 1616) dL_law_40 hx0 (by rw [e0]; rfl) (by decide) (lc_back H I hM hn hi hL hx hq)
  · exact z_tabI (off := 1589) (tgt := 1629) dL_law_40 hx0 (by rw [e0]; rfl) (by decide) (lc_count H I hM hn hi hL hx hq)
theorem lw_w2 {a b n : Nat} (h1 : a ≤ b + 1000) (h2 : b ≤ 64 + 1000 * n) : a ≤ 64 + 1000 * (n + 1) := Nat.le_trans h1 (Nat.le_trans (Nat.add_le_add_right h2 1000) (Nat.le_of_eq (by rw [Nat.mul_succ, Nat.add_assoc])))
theorem lw_w3 {a b n : Nat} (h1 : a ≤ b + 10000) (h2 : b ≤ 100000 + 10000 * n) : a ≤ 100000 + 10000 * (n + 1) := Nat.le_trans h1 (Nat.le_trans (Nat.add_le_add_right h2 10000) (Nat.le_of_eq (by rw [Nat.mul_succ, Nat.add_assoc])))
theorem lw_loop (hL : L ≤ 3072) (h5 : 4 < nL) (hx : ∀ pc st hp, pc ≠ 390 → ex pc st hp = none) (hJ : JarC L xs fm ex d nL (fun v h2 => v = some (.int 1) ∧ h2.2.1 ≤ 576 ∧ h2.2.2.1 ≤ 520000 ∧ h2.2.2.2 ≤ 5300000)) : ∀ (m n : Nat) (e : Option (Int32 × Int32)) (hp : ia_H) (A B : zS), L - 6 * n ≤ m → 6 * n ≤ L → Both A B hp → Inv (1000 * n) A B → hp.2.1 ≤ 64 + n → hp.2.2.1 ≤ 64 + 1000 * n → hp.2.2.2 ≤ 100000 + 10000 * n →
    zW (ia_P0 L xs fm) ex (d + 150) 13 false cL_law nL (some .boolean) 23 (lwLv e (6 * n)) [] hp (fun v h2 => v = some (.int 1) ∧ h2.2.1 ≤ 576 ∧ h2.2.2.1 ≤ 520000 ∧ h2.2.2.2 ≤ 5300000) := by
  intro m
  induction m using Nat.strongRecOn with
  | ind m ih =>
    intro n e hp A B hm h6 H I b1 b2 b3
    have t6 : (6 : Int32).toInt = 6 := by decide
    have tL : (Int32.ofNat L - 6).toInt = (L : Int) - 6 := by rw [ti_sub (by rw [ti_nat (by omega), t6]; omega), ti_nat (by omega), t6]
    refine z_iload dL_law_23 lw_g4 ?_
    refine z_aload_n dL_law_25 lw_g0 ?_
    refine z_alenC (N := L) (f := xs) dL_law_26 (by omega) (by omega) hc_scr (by omega) rfl ?_
    refine z_bipush (v := 6) dL_law_27 (by decide) ?_
    refine z_isub dL_law_29 ?_
    by_cases c : Int32.ofNat L - 6 < Int32.ofNat (6 * n)
    · refine z_icmp_gt_t (tgt := 1660) dL_law_30 (by decide) c ?_
      refine z_iconst (v := 1) dL_law_1660 (by decide) ?_
      exact z_zreturn dL_law_1661 rfl (Or.inr rfl) ⟨rfl, by omega, by omega, by omega⟩
    · refine z_icmp_gt_f (tgt := 1660) dL_law_30 (by decide) c ?_
      rw [Int32.lt_iff_toInt_lt, tL, ti_nat (by omega)] at c
      refine z_aload_n dL_law_33 lw_g0 ?_
      refine z_iload dL_law_34 lw_g4 ?_
      refine z_ialoadC (N := L) (f := xs) dL_law_36 (by omega) (by omega) hc_scr (io_in (by omega) (by omega)) ?_
      refine z_bipush (v := 63) dL_law_37 (by decide) ?_
      refine z_iand dL_law_39 ?_
      obtain ⟨k, k1, k2⟩ := and63 (xs (Int32.ofNat (6 * n)).toNatClampNeg)
      refine lw_case (M := 1000 * n) h5 H I (by omega) (by omega) (by omega) (by omega) hx hJ ?_ k1 k2
      intro e2 h2 A2 B2 H2 I2 ⟨d1, d2, d3⟩
      rw [show 6 * n + 6 = 6 * (n + 1) by omega]
      refine z_goto (tgt := 23) dL_law_1657 (by decide) ?_
      exact ih (L - 6 * (n + 1)) (by omega) (n + 1) e2 h2 A2 B2 (Nat.le_refl _) (by omega) H2 (by rw [show 1000 * (n + 1) = 1000 * n + 1000 by omega]; exact I2) (by omega) (lw_w2 d2 b2) (lw_w3 d3 b3)
end NH
