/-! Kitchens: clauses (written by wip/whole/gen61.py). -/
section PI
variable {b : Nat → Int32} {n : Nat} {i : Nat} {f w : Int32}
theorem n106_104 : ((106 : Int32) = 104) = False := eq_false (by decide)
theorem n106_116 : ((106 : Int32) = 116) = False := eq_false (by decide)
theorem n104_106 : ((104 : Int32) = 106) = False := eq_false (by decide)
theorem n104_116 : ((104 : Int32) = 116) = False := eq_false (by decide)
theorem n116_106 : ((116 : Int32) = 106) = False := eq_false (by decide)
theorem n116_104 : ((116 : Int32) = 104) = False := eq_false (by decide)
theorem r_cl_106 {S S1 : zS} (hl : f_X12_look S = some (106, S1)) (h : ¬ 4 ≤ S1.1 41 27) : f_X12_readClause S = f_X12_readClause_L221h (fun (q1 : Int32) (S2 : zS) => zb (f_X12_look S2) fun r3 S4 => zb (f_X12_placeOf_1000101 r3 S4) fun r5 S6 => f_X12_readClause_L264h (fun (q79 : Int32) (q80 : Int32) (S78 : zS) => some ((), S78)) 106 1 (6 * (sV S1 41 10 (S1.1 41 10 + 1)).1 41 27) zN 0 r5 S6) 106 1 (6 * (sV S1 41 10 (S1.1 41 10 + 1)).1 41 27) zN 0 (sV (sV S1 41 10 (S1.1 41 10 + 1)) 41 27 ((sV S1 41 10 (S1.1 41 10 + 1)).1 41 27 + 1)) := by
  have h' := Int32.not_le.mp h
  unfold f_X12_readClause
  rw [hl, zbE]
  simp only [zlE, ↓reduceIte, n106_104, n106_116, not_true_eq_false, not_false_eq_true, h, h']
theorem r_cf_106 {S S1 : zS} (hl : f_X12_look S = some (106, S1)) (h : 4 ≤ S1.1 41 27) : f_X12_readClause S = zb (f_X12_fails S1) fun r14 S13 => some ((), S13) := by
  have h' := Int32.not_lt.mpr h
  unfold f_X12_readClause
  rw [hl, zbE]
  simp only [zlE, ↓reduceIte, n106_104, n106_116, not_true_eq_false, not_false_eq_true, h, h']
theorem r_cl_104 {S S1 : zS} (hl : f_X12_look S = some (104, S1)) (h : ¬ 6 ≤ S1.1 41 28) : f_X12_readClause S = f_X12_readClause_L221d (fun (q1 : Int32) (S2 : zS) => zb (f_X12_look S2) fun r3 S4 => zb (f_X12_placeOf_1000102 r3 S4) fun r5 S6 => f_X12_readClause_L264d (fun (q79 : Int32) (q80 : Int32) (S78 : zS) => some ((), S78)) 104 1 (5 * (sV S1 41 10 (S1.1 41 10 + 1)).1 41 28) zN 0 r5 S6) 104 1 (5 * (sV S1 41 10 (S1.1 41 10 + 1)).1 41 28) zN 0 (sV (sV S1 41 10 (S1.1 41 10 + 1)) 41 28 ((sV S1 41 10 (S1.1 41 10 + 1)).1 41 28 + 1)) := by
  have h' := Int32.not_le.mp h
  unfold f_X12_readClause
  rw [hl, zbE]
  simp only [zlE, ↓reduceIte, n104_106, n104_116, not_true_eq_false, not_false_eq_true, h, h']
theorem r_cf_104 {S S1 : zS} (hl : f_X12_look S = some (104, S1)) (h : 6 ≤ S1.1 41 28) : f_X12_readClause S = zb (f_X12_fails S1) fun r14 S13 => some ((), S13) := by
  have h' := Int32.not_lt.mpr h
  unfold f_X12_readClause
  rw [hl, zbE]
  simp only [zlE, ↓reduceIte, n104_106, n104_116, not_true_eq_false, not_false_eq_true, h, h']
theorem r_cl_116 {S S1 : zS} (hl : f_X12_look S = some (116, S1)) (h : ¬ 4 ≤ S1.1 41 29) : f_X12_readClause S = f_X12_readClause_L221 (fun (q1 : Int32) (S2 : zS) => zb (f_X12_look S2) fun r3 S4 => zb (f_X12_placeOf_1000103 r3 S4) fun r5 S6 => f_X12_readClause_L264 (fun (q79 : Int32) (q80 : Int32) (S78 : zS) => some ((), S78)) 116 1 (2 * (sV S1 41 10 (S1.1 41 10 + 1)).1 41 29) zN 0 r5 S6) 116 1 (2 * (sV S1 41 10 (S1.1 41 10 + 1)).1 41 29) zN 0 (sV (sV S1 41 10 (S1.1 41 10 + 1)) 41 29 ((sV S1 41 10 (S1.1 41 10 + 1)).1 41 29 + 1)) := by
  have h' := Int32.not_le.mp h
  unfold f_X12_readClause
  rw [hl, zbE]
  simp only [zlE, ↓reduceIte, n116_106, n116_104, not_true_eq_false, not_false_eq_true, h, h']
theorem r_cf_116 {S S1 : zS} (hl : f_X12_look S = some (116, S1)) (h : 4 ≤ S1.1 41 29) : f_X12_readClause S = zb (f_X12_fails S1) fun r14 S13 => some ((), S13) := by
  have h' := Int32.not_lt.mpr h
  unfold f_X12_readClause
  rw [hl, zbE]
  simp only [zlE, ↓reduceIte, n116_106, n116_104, not_true_eq_false, not_false_eq_true, h, h']
theorem r_cf_no {S S1 : zS} {r2 : Int32} (hl : f_X12_look S = some (r2, S1)) (h1 : ¬ r2 = 106) (h2 : ¬ r2 = 104) (h3 : ¬ r2 = 116) : f_X12_readClause S = zb (f_X12_fails S1) fun r14 S13 => some ((), S13) := by
  unfold f_X12_readClause
  rw [hl, zbE]
  simp only [zlE, ↓reduceIte, not_true_eq_false, not_false_eq_true, h1, h2, h3]
theorem RTx.s41 {S : zS} (T : RTx S b n) {k : Nat} (h8 : k ≠ 8) (h9 : k ≠ 9) (x : Int32) : RTx (sV S 41 k x) b n := by
  unfold RTx
  rw [sV_g, if_neg (fun q => h9 q.2.symm), sV_g, if_neg (fun q => h8 q.2.symm), sV_2, show (sV S 41 k x).1 42 = S.1 42 by rw [sV_eq]; exact sR_ne _ _ (by decide), show (sV S 41 k x).1 43 = S.1 43 by rw [sV_eq]; exact sR_ne _ _ (by decide)]
  exact T
theorem CTx.s5 {S : zS} (T : CTx S b n) (k : Nat) (x : Int32) : CTx (sV S 5 k x) b n := by
  refine ⟨?_, ?_⟩
  · rw [sV_g, if_neg (fun q => absurd q.1 (by decide))]
    exact T.1
  · rw [sV_eq, sR_ne _ _ (by decide)]
    exact T.2
theorem lk_pk {x : Int32} (hx : x ≠ 0) (h : pk b n i = x) : lk b n i = x := by
  have lt := pkn_lt h hx
  unfold lk
  rw [if_pos lt, ← pk_of lt, h]
theorem r_us_0 (ex : Int32 → zS → Option (Unit × zS)) {q : Nat} (hq : q < 4) : ∀ (d c fu : Nat) (S : zS), c + d = 6 → d < fu → ∃ S', f_X12_readClause_L221h ex 106 1 (Int32.ofNat (6 * q)) fu (Int32.ofNat c) (rS S i (-1) w) = ex (Int32.ofNat 6) (rS S' i (-1) w) ∧ frc 47 (6 * q) (6 * q + 6) S S' ∧ (∀ c', c' < c → S'.1 47 (6 * q + c') = S.1 47 (6 * q + c')) ∧ ∀ c', c ≤ c' → c' < 6 → S'.1 47 (6 * q + c') = zc_1000007 (0 + c')
  | 0, c, fu, S, hc, hf => by
    obtain ⟨z, rfl⟩ : ∃ z, fu = z + 1 := ⟨fu - 1, by omega⟩
    have e : c = 6 := by omega
    subst e
    rw [f_X12_readClause_L221h, show f_J0_length_8abf5_1000101 (rS S i (-1) w) = some (Int32.ofNat 6, rS S i (-1) w) from rfl, zbE, if_pos (Int32.le_refl _)]
    exact ⟨S, rfl, frc.rfl' S, fun _ _ => rfl, fun c' h1 h2 => by omega⟩
  | d + 1, c, fu, S, hc, hf => by
    obtain ⟨z, rfl⟩ : ∃ z, fu = z + 1 := ⟨fu - 1, by omega⟩
    rw [f_X12_readClause_L221h, show f_J0_length_8abf5_1000101 (rS S i (-1) w) = some (Int32.ofNat 6, rS S i (-1) w) from rfl, zbE, if_neg (fun h => by have := (io_le (by omega) (by omega)).mp h; omega), usual_0 c (by omega), zbE, ix_aa, if_pos (io_in (show 6 * q + c < 24 by omega) (by omega)), zlE, zlE, io_cl (by omega), rS_so (by decide), io_sc]
    obtain ⟨S', o1, o2, o3, o4⟩ := r_us_0 ex hq d (c + 1) z (sV S 47 (6 * q + c) (zc_1000007 (0 + c))) (by omega) (by omega)
    refine ⟨S', o1, (frc.set S (by omega) (by omega) _).tr o2, fun c' h => ?_, fun c' h1 h2 => ?_⟩
    · rw [o3 c' (by omega), sV_g, if_neg (fun q => by omega)]
    · by_cases e : c' = c
      · subst e
        rw [o3 c' (by omega), sV_g, if_pos ⟨rfl, rfl⟩]
      · exact o4 c' (by omega) h2
theorem c_us_0 (ex : Int32 → zS → Option (Unit × zS)) {q : Nat} (hq : q < 4) : ∀ (d c fu : Nat) (S : zS), c + d = 6 → d < fu → ∃ S', f_X4_readClause_L81 ex (Int32.ofNat 0) (Int32.ofNat q) fu (Int32.ofNat c) (tS S i f) = ex (Int32.ofNat 6) (tS S' i f) ∧ frc 6 (0 + 6 * q) (0 + 6 * q + 6) S S' ∧ (∀ c', c' < c → S'.1 6 (0 + 6 * q + c') = S.1 6 (0 + 6 * q + c')) ∧ ∀ c', c ≤ c' → c' < 6 → S'.1 6 (0 + 6 * q + c') = zc_1000007 (0 + c')
  | 0, c, fu, S, hc, hf => by
    obtain ⟨z, rfl⟩ : ∃ z, fu = z + 1 := ⟨fu - 1, by omega⟩
    have e : c = 6 := by omega
    subst e
    rw [f_X4_readClause_L81, if_pos (show ia_in (Int32.ofNat 0) 3 = true by decide), show zc_1000002 (Int32.ofNat 0).toNatClampNeg = Int32.ofNat 6 by decide, if_pos (Int32.le_refl _)]
    exact ⟨S, rfl, frc.rfl' S, fun _ _ => rfl, fun c' h1 h2 => by omega⟩
  | d + 1, c, fu, S, hc, hf => by
    obtain ⟨z, rfl⟩ : ∃ z, fu = z + 1 := ⟨fu - 1, by omega⟩
    have cell : ∀ X : zS, f_X10_cellOf (Int32.ofNat 0) (Int32.ofNat q) (Int32.ofNat c) X = some (Int32.ofNat (0 + 6 * q + c), X) := by
      intro X
      unfold f_X10_cellOf
      rw [if_pos (show ia_in (Int32.ofNat 0) 3 = true by decide), if_pos (show ia_in (Int32.ofNat 0) 3 = true by decide), show zc_1000003 (Int32.ofNat 0).toNatClampNeg = Int32.ofNat 0 by decide, show zc_1000002 (Int32.ofNat 0).toNatClampNeg = Int32.ofNat 6 by decide, cellE]
    rw [f_X4_readClause_L81, if_pos (show ia_in (Int32.ofNat 0) 3 = true by decide), show zc_1000002 (Int32.ofNat 0).toNatClampNeg = Int32.ofNat 6 by decide, if_neg (fun h => by have := (io_le (by omega) (by omega)).mp h; omega), cell, zbE, if_pos (show ia_in (Int32.ofNat 0) 3 = true by decide), show zc_1000004 (Int32.ofNat 0).toNatClampNeg = Int32.ofNat 0 by decide, ix_aa, if_pos (io_in (show 0 + c < 13 by omega) (by omega)), if_pos (io_in (show 0 + 6 * q + c < 62 by omega) (by omega)), zlE, zlE, io_cl (show 0 + 6 * q + c < 2147483648 by omega), io_cl (show 0 + c < 2147483648 by omega), tS_sk (by decide), io_sc]
    obtain ⟨S', o1, o2, o3, o4⟩ := c_us_0 ex hq d (c + 1) z (sV S 6 (0 + 6 * q + c) (zc_1000007 (0 + c))) (by omega) (by omega)
    refine ⟨S', o1, (frc.set S (by omega) (by omega) _).tr o2, fun c' h => ?_, fun c' h1 h2 => ?_⟩
    · rw [o3 c' (by omega), sV_g, if_neg (fun q => by omega)]
    · by_cases e : c' = c
      · subst e
        rw [o3 c' (by omega), sV_g, if_pos ⟨rfl, rfl⟩]
      · exact o4 c' (by omega) h2
theorem k_cl_0 {S S2 : zS} (TB : TxB b n) {q : Nat} (hq : q < 4) (T : CTx S b n) (T2 : RTx S2 b n) (hi : i ≤ n) (hc : pk b n i = 106) (h5 : S.1 5 0 = Int32.ofNat q) (h41 : S2.1 41 27 = Int32.ofNat q) :
    (∃ S' S2' i', f_X4_readClause (tS S i (-1)) = some ((), tS S' i' (-1)) ∧ f_X12_readClause (rS S2 i (-1) w) = some ((), rS S2' i' (-1) w) ∧ i < i' ∧ i' ≤ n ∧ frc 6 (0 + 6 * q) (0 + 6 * q + 6) (sV S 5 0 (Int32.ofNat (q + 1))) S' ∧ frc 47 (6 * q) (6 * q + 6) (sV S2 41 27 (Int32.ofNat (q + 1))) S2' ∧ KI0 q S' S2') ∨
    (∃ y S' S2' i1 f1 i2, f_X4_readClause (tS S i (-1)) = some ((), tS S' i1 f1) ∧ f_X12_readClause (rS S2 i (-1) w) = some ((), rS S2' i2 (Int32.ofNat y) w) ∧ y ≤ n ∧ stk b n y i1 f1 ∧ frc 6 (0 + 6 * q) (0 + 6 * q + 6) (sV S 5 0 (Int32.ofNat (q + 1))) S' ∧ frc 47 (6 * q) (6 * q + 6) (sV S2 41 27 (Int32.ofNat (q + 1))) S2') := by
  have n2 := TB.1
  have s1 := sk_ge (b := b) hi
  have lt := pkn_lt hc (by decide)
  have j1 : sk b n i + 1 ≤ n := by omega
  have t1 := sk_ge (b := b) j1
  have hlk : f_X12_look (rS S2 i (-1) w) = some (106, rS S2 (sk b n i) (-1) w) := by rw [r_look T2 hi, lk_pk (by decide) hc]
  have e41 : (rS S2 (sk b n i) (-1) w).1 41 27 = Int32.ofNat q := by rw [rS_k (by decide)]; exact h41
  have nf : ¬ (4 : Int32) ≤ (rS S2 (sk b n i) (-1) w).1 41 27 := fun h => by rw [e41] at h; have := (io_le (a := 4) (by omega) (by omega)).mp h; omega
  rw [r_cl_106 hlk nf, rS_up, rS_k (k := 27) (by decide), h41, io_sc, rS_sk (by decide), ix_m6]
  obtain ⟨X2, x1, x2, -, x4⟩ := r_us_0 (i := sk b n i + 1) (w := w) (fun (q1 : Int32) (S2 : zS) => zb (f_X12_look S2) fun r3 S4 => zb (f_X12_placeOf_1000101 r3 S4) fun r5 S6 => f_X12_readClause_L264h (fun (q79 : Int32) (q80 : Int32) (S78 : zS) => some ((), S78)) 106 1 (Int32.ofNat (6 * q)) zN 0 r5 S6) hq 6 0 zN (sV S2 41 27 (Int32.ofNat (q + 1))) (by omega) (by unfold zN; omega)
  have T2' := x2.R (by decide) (by decide) (by decide) (T2.s41 (k := 27) (by decide) (by decide) (Int32.ofNat (q + 1)))
  rw [show f_X12_readClause_L221h (fun (q1 : Int32) (S2 : zS) => zb (f_X12_look S2) fun r3 S4 => zb (f_X12_placeOf_1000101 r3 S4) fun r5 S6 => f_X12_readClause_L264h (fun (q79 : Int32) (q80 : Int32) (S78 : zS) => some ((), S78)) 106 1 (Int32.ofNat (6 * q)) zN 0 r5 S6) 106 1 (Int32.ofNat (6 * q)) zN 0 (rS (sV S2 41 27 (Int32.ofNat (q + 1))) (sk b n i + 1) (-1) w) = _ from x1]
  obtain ⟨u, u1, u2⟩ := pk_v' TB j1
  rw [r_look T2' j1, zbE, r_pl_1, zbE, px_lk_1 u1 u2]
  obtain ⟨X, y1, y2, -, y4⟩ := c_us_0 (i := sk b n i + 1) (f := -1) (fun (q33 : Int32) (S32 : zS) => zb (f_X4_readItems (Int32.ofNat 0) (Int32.ofNat q) S32) fun _ S34 => some ((), S34)) hq 6 0 zN (sV S 5 0 (Int32.ofNat (q + 1))) (by omega) (by unfold zN; omega)
  have T' := y2.C (by decide) (by decide) (T.s5 0 (Int32.ofNat (q + 1)))
  have ci : f_X4_readClause (tS S i (-1)) = zb (f_X4_readItems (Int32.ofNat 0) (Int32.ofNat q) (tS X (sk b n i + 1) (-1))) fun _ S34 => some ((), S34) := by
    have v5 : ∀ X : Nat, (tS S X (-1)).1 5 (Int32.ofNat 0).toNatClampNeg = Int32.ofNat q := fun X => by rw [tS_b (by decide)]; exact h5
    unfold f_X4_readClause
    rw [c_sign1 T n2 hi, zbE, hc, show f_J0_indexOf_0f7a4_1000100 (((106 : Int32).toUInt32 % 65536).toInt32) (tS S (sk b n i) (-1)) = some (Int32.ofNat 0, tS S (sk b n i) (-1)) from c_idx_0 (v := 106) (by decide) _, zbE, zlE, if_neg (show ¬ Int32.ofNat 0 < 0 by decide), if_pos (show ia_in (Int32.ofNat 0) 3 = true by decide), if_pos (show ia_in (Int32.ofNat 0) 3 = true by decide), v5, show zc_1000001 (Int32.ofNat 0).toNatClampNeg = Int32.ofNat 4 by decide, if_pos ((io_lt (by omega) (by omega)).mpr hq), zlE, tS_up, if_pos (show ia_in (Int32.ofNat 0) 3 = true by decide), zlE, if_pos (show ia_in (Int32.ofNat 0) 3 = true by decide), if_pos (show ia_in (Int32.ofNat 0) 3 = true by decide), zlE, v5, io_sc, show (Int32.ofNat 0).toNatClampNeg = 0 by decide, tS_sk (by decide)]
    exact y1
  have it : f_X4_readItems (Int32.ofNat 0) (Int32.ofNat q) (tS X (sk b n i + 1) (-1)) = f_X4_readItems_L25 (fun (q35 : Int32) (q36 : Int32) (q37 : Int32) (S34 : zS) => some ((), S34)) (Int32.ofNat 0) (Int32.ofNat q) zN 0 (sx_1 u) (Int32.ofNat 0) (tS X (sk b n (sk b n i + 1)) (-1)) := by
    unfold f_X4_readItems
    rw [show f_X4_lettersOf (Int32.ofNat 0) (tS X (sk b n i + 1) (-1)) = some (.ref 1000101, tS X (sk b n i + 1) (-1)) from rfl, zbE]
    simp only [↓reduceIte, Value.ref.injEq, Nat.reduceEqDiff]
    rw [c_sign1 T' n2 j1, zbE, show f_J0_indexOf_0f7a4_1000101 (((pk b n (sk b n i + 1)).toUInt32 % 65536).toInt32) (tS X (sk b n (sk b n i + 1)) (-1)) = some (sx_1 u, tS X (sk b n (sk b n i + 1)) (-1)) by rw [u2]; exact c_idx_1 u1 _, zbE]
    rfl
  have KK : KI0 q X X2 := fun c hc => by
    rw [x4 c (by omega) hc, y4 c (by omega) hc]
    exact ⟨rfl, usb_0 c hc⟩
  rcases k_items_0 (w := w) TB hq n (sk b n i + 1) 0 zN zN 0 X X2 u (by omega) T' T2' j1 (by omega) (by unfold zN; omega) (by unfold zN; omega) u1 u2 KK with ⟨S', S2', i', o1, o2, o3, o4, o5, o6, o7⟩ | ⟨y, S', S2', k1, f1, k2, o1, o2, o3, o4, o5, o6⟩
  · left
    refine ⟨S', S2', i', ?_, o2, by omega, o4, y2.tr o5, x2.tr o6, o7⟩
    rw [ci, it, o1, zbE]
  · right
    refine ⟨y, S', S2', k1, f1, k2, ?_, o2, o3, o4, y2.tr o5, x2.tr o6⟩
    rw [ci, it, o1, zbE]
theorem r_us_1 (ex : Int32 → zS → Option (Unit × zS)) {q : Nat} (hq : q < 6) : ∀ (d c fu : Nat) (S : zS), c + d = 5 → d < fu → ∃ S', f_X12_readClause_L221d ex 104 1 (Int32.ofNat (5 * q)) fu (Int32.ofNat c) (rS S i (-1) w) = ex (Int32.ofNat 5) (rS S' i (-1) w) ∧ frc 49 (5 * q) (5 * q + 5) S S' ∧ (∀ c', c' < c → S'.1 49 (5 * q + c') = S.1 49 (5 * q + c')) ∧ ∀ c', c ≤ c' → c' < 5 → S'.1 49 (5 * q + c') = zc_1000007 (6 + c')
  | 0, c, fu, S, hc, hf => by
    obtain ⟨z, rfl⟩ : ∃ z, fu = z + 1 := ⟨fu - 1, by omega⟩
    have e : c = 5 := by omega
    subst e
    rw [f_X12_readClause_L221d, show f_J0_length_8abf5_1000102 (rS S i (-1) w) = some (Int32.ofNat 5, rS S i (-1) w) from rfl, zbE, if_pos (Int32.le_refl _)]
    exact ⟨S, rfl, frc.rfl' S, fun _ _ => rfl, fun c' h1 h2 => by omega⟩
  | d + 1, c, fu, S, hc, hf => by
    obtain ⟨z, rfl⟩ : ∃ z, fu = z + 1 := ⟨fu - 1, by omega⟩
    rw [f_X12_readClause_L221d, show f_J0_length_8abf5_1000102 (rS S i (-1) w) = some (Int32.ofNat 5, rS S i (-1) w) from rfl, zbE, if_neg (fun h => by have := (io_le (by omega) (by omega)).mp h; omega), usual_1 c (by omega), zbE, ix_aa, if_pos (io_in (show 5 * q + c < 30 by omega) (by omega)), zlE, zlE, io_cl (by omega), rS_so (by decide), io_sc]
    obtain ⟨S', o1, o2, o3, o4⟩ := r_us_1 ex hq d (c + 1) z (sV S 49 (5 * q + c) (zc_1000007 (6 + c))) (by omega) (by omega)
    refine ⟨S', o1, (frc.set S (by omega) (by omega) _).tr o2, fun c' h => ?_, fun c' h1 h2 => ?_⟩
    · rw [o3 c' (by omega), sV_g, if_neg (fun q => by omega)]
    · by_cases e : c' = c
      · subst e
        rw [o3 c' (by omega), sV_g, if_pos ⟨rfl, rfl⟩]
      · exact o4 c' (by omega) h2
theorem c_us_1 (ex : Int32 → zS → Option (Unit × zS)) {q : Nat} (hq : q < 6) : ∀ (d c fu : Nat) (S : zS), c + d = 5 → d < fu → ∃ S', f_X4_readClause_L81 ex (Int32.ofNat 1) (Int32.ofNat q) fu (Int32.ofNat c) (tS S i f) = ex (Int32.ofNat 5) (tS S' i f) ∧ frc 6 (24 + 5 * q) (24 + 5 * q + 5) S S' ∧ (∀ c', c' < c → S'.1 6 (24 + 5 * q + c') = S.1 6 (24 + 5 * q + c')) ∧ ∀ c', c ≤ c' → c' < 5 → S'.1 6 (24 + 5 * q + c') = zc_1000007 (6 + c')
  | 0, c, fu, S, hc, hf => by
    obtain ⟨z, rfl⟩ : ∃ z, fu = z + 1 := ⟨fu - 1, by omega⟩
    have e : c = 5 := by omega
    subst e
    rw [f_X4_readClause_L81, if_pos (show ia_in (Int32.ofNat 1) 3 = true by decide), show zc_1000002 (Int32.ofNat 1).toNatClampNeg = Int32.ofNat 5 by decide, if_pos (Int32.le_refl _)]
    exact ⟨S, rfl, frc.rfl' S, fun _ _ => rfl, fun c' h1 h2 => by omega⟩
  | d + 1, c, fu, S, hc, hf => by
    obtain ⟨z, rfl⟩ : ∃ z, fu = z + 1 := ⟨fu - 1, by omega⟩
    have cell : ∀ X : zS, f_X10_cellOf (Int32.ofNat 1) (Int32.ofNat q) (Int32.ofNat c) X = some (Int32.ofNat (24 + 5 * q + c), X) := by
      intro X
      unfold f_X10_cellOf
      rw [if_pos (show ia_in (Int32.ofNat 1) 3 = true by decide), if_pos (show ia_in (Int32.ofNat 1) 3 = true by decide), show zc_1000003 (Int32.ofNat 1).toNatClampNeg = Int32.ofNat 24 by decide, show zc_1000002 (Int32.ofNat 1).toNatClampNeg = Int32.ofNat 5 by decide, cellE]
    rw [f_X4_readClause_L81, if_pos (show ia_in (Int32.ofNat 1) 3 = true by decide), show zc_1000002 (Int32.ofNat 1).toNatClampNeg = Int32.ofNat 5 by decide, if_neg (fun h => by have := (io_le (by omega) (by omega)).mp h; omega), cell, zbE, if_pos (show ia_in (Int32.ofNat 1) 3 = true by decide), show zc_1000004 (Int32.ofNat 1).toNatClampNeg = Int32.ofNat 6 by decide, ix_aa, if_pos (io_in (show 6 + c < 13 by omega) (by omega)), if_pos (io_in (show 24 + 5 * q + c < 62 by omega) (by omega)), zlE, zlE, io_cl (show 24 + 5 * q + c < 2147483648 by omega), io_cl (show 6 + c < 2147483648 by omega), tS_sk (by decide), io_sc]
    obtain ⟨S', o1, o2, o3, o4⟩ := c_us_1 ex hq d (c + 1) z (sV S 6 (24 + 5 * q + c) (zc_1000007 (6 + c))) (by omega) (by omega)
    refine ⟨S', o1, (frc.set S (by omega) (by omega) _).tr o2, fun c' h => ?_, fun c' h1 h2 => ?_⟩
    · rw [o3 c' (by omega), sV_g, if_neg (fun q => by omega)]
    · by_cases e : c' = c
      · subst e
        rw [o3 c' (by omega), sV_g, if_pos ⟨rfl, rfl⟩]
      · exact o4 c' (by omega) h2
theorem k_cl_1 {S S2 : zS} (TB : TxB b n) {q : Nat} (hq : q < 6) (T : CTx S b n) (T2 : RTx S2 b n) (hi : i ≤ n) (hc : pk b n i = 104) (h5 : S.1 5 1 = Int32.ofNat q) (h41 : S2.1 41 28 = Int32.ofNat q) :
    (∃ S' S2' i', f_X4_readClause (tS S i (-1)) = some ((), tS S' i' (-1)) ∧ f_X12_readClause (rS S2 i (-1) w) = some ((), rS S2' i' (-1) w) ∧ i < i' ∧ i' ≤ n ∧ frc 6 (24 + 5 * q) (24 + 5 * q + 5) (sV S 5 1 (Int32.ofNat (q + 1))) S' ∧ frc 49 (5 * q) (5 * q + 5) (sV S2 41 28 (Int32.ofNat (q + 1))) S2' ∧ KI1 q S' S2') ∨
    (∃ y S' S2' i1 f1 i2, f_X4_readClause (tS S i (-1)) = some ((), tS S' i1 f1) ∧ f_X12_readClause (rS S2 i (-1) w) = some ((), rS S2' i2 (Int32.ofNat y) w) ∧ y ≤ n ∧ stk b n y i1 f1 ∧ frc 6 (24 + 5 * q) (24 + 5 * q + 5) (sV S 5 1 (Int32.ofNat (q + 1))) S' ∧ frc 49 (5 * q) (5 * q + 5) (sV S2 41 28 (Int32.ofNat (q + 1))) S2') := by
  have n2 := TB.1
  have s1 := sk_ge (b := b) hi
  have lt := pkn_lt hc (by decide)
  have j1 : sk b n i + 1 ≤ n := by omega
  have t1 := sk_ge (b := b) j1
  have hlk : f_X12_look (rS S2 i (-1) w) = some (104, rS S2 (sk b n i) (-1) w) := by rw [r_look T2 hi, lk_pk (by decide) hc]
  have e41 : (rS S2 (sk b n i) (-1) w).1 41 28 = Int32.ofNat q := by rw [rS_k (by decide)]; exact h41
  have nf : ¬ (6 : Int32) ≤ (rS S2 (sk b n i) (-1) w).1 41 28 := fun h => by rw [e41] at h; have := (io_le (a := 6) (by omega) (by omega)).mp h; omega
  rw [r_cl_104 hlk nf, rS_up, rS_k (k := 28) (by decide), h41, io_sc, rS_sk (by decide), ix_m5]
  obtain ⟨X2, x1, x2, -, x4⟩ := r_us_1 (i := sk b n i + 1) (w := w) (fun (q1 : Int32) (S2 : zS) => zb (f_X12_look S2) fun r3 S4 => zb (f_X12_placeOf_1000102 r3 S4) fun r5 S6 => f_X12_readClause_L264d (fun (q79 : Int32) (q80 : Int32) (S78 : zS) => some ((), S78)) 104 1 (Int32.ofNat (5 * q)) zN 0 r5 S6) hq 5 0 zN (sV S2 41 28 (Int32.ofNat (q + 1))) (by omega) (by unfold zN; omega)
  have T2' := x2.R (by decide) (by decide) (by decide) (T2.s41 (k := 28) (by decide) (by decide) (Int32.ofNat (q + 1)))
  rw [show f_X12_readClause_L221d (fun (q1 : Int32) (S2 : zS) => zb (f_X12_look S2) fun r3 S4 => zb (f_X12_placeOf_1000102 r3 S4) fun r5 S6 => f_X12_readClause_L264d (fun (q79 : Int32) (q80 : Int32) (S78 : zS) => some ((), S78)) 104 1 (Int32.ofNat (5 * q)) zN 0 r5 S6) 104 1 (Int32.ofNat (5 * q)) zN 0 (rS (sV S2 41 28 (Int32.ofNat (q + 1))) (sk b n i + 1) (-1) w) = _ from x1]
  obtain ⟨u, u1, u2⟩ := pk_v' TB j1
  rw [r_look T2' j1, zbE, r_pl_2, zbE, px_lk_2 u1 u2]
  obtain ⟨X, y1, y2, -, y4⟩ := c_us_1 (i := sk b n i + 1) (f := -1) (fun (q33 : Int32) (S32 : zS) => zb (f_X4_readItems (Int32.ofNat 1) (Int32.ofNat q) S32) fun _ S34 => some ((), S34)) hq 5 0 zN (sV S 5 1 (Int32.ofNat (q + 1))) (by omega) (by unfold zN; omega)
  have T' := y2.C (by decide) (by decide) (T.s5 1 (Int32.ofNat (q + 1)))
  have ci : f_X4_readClause (tS S i (-1)) = zb (f_X4_readItems (Int32.ofNat 1) (Int32.ofNat q) (tS X (sk b n i + 1) (-1))) fun _ S34 => some ((), S34) := by
    have v5 : ∀ X : Nat, (tS S X (-1)).1 5 (Int32.ofNat 1).toNatClampNeg = Int32.ofNat q := fun X => by rw [tS_b (by decide)]; exact h5
    unfold f_X4_readClause
    rw [c_sign1 T n2 hi, zbE, hc, show f_J0_indexOf_0f7a4_1000100 (((104 : Int32).toUInt32 % 65536).toInt32) (tS S (sk b n i) (-1)) = some (Int32.ofNat 1, tS S (sk b n i) (-1)) from c_idx_0 (v := 104) (by decide) _, zbE, zlE, if_neg (show ¬ Int32.ofNat 1 < 0 by decide), if_pos (show ia_in (Int32.ofNat 1) 3 = true by decide), if_pos (show ia_in (Int32.ofNat 1) 3 = true by decide), v5, show zc_1000001 (Int32.ofNat 1).toNatClampNeg = Int32.ofNat 6 by decide, if_pos ((io_lt (by omega) (by omega)).mpr hq), zlE, tS_up, if_pos (show ia_in (Int32.ofNat 1) 3 = true by decide), zlE, if_pos (show ia_in (Int32.ofNat 1) 3 = true by decide), if_pos (show ia_in (Int32.ofNat 1) 3 = true by decide), zlE, v5, io_sc, show (Int32.ofNat 1).toNatClampNeg = 1 by decide, tS_sk (by decide)]
    exact y1
  have it : f_X4_readItems (Int32.ofNat 1) (Int32.ofNat q) (tS X (sk b n i + 1) (-1)) = f_X4_readItems_L25a (fun (q35 : Int32) (q36 : Int32) (q37 : Int32) (S34 : zS) => some ((), S34)) (Int32.ofNat 1) (Int32.ofNat q) zN 0 (sx_2 u) (Int32.ofNat 0) (tS X (sk b n (sk b n i + 1)) (-1)) := by
    unfold f_X4_readItems
    rw [show f_X4_lettersOf (Int32.ofNat 1) (tS X (sk b n i + 1) (-1)) = some (.ref 1000102, tS X (sk b n i + 1) (-1)) from rfl, zbE]
    simp only [↓reduceIte, Value.ref.injEq, Nat.reduceEqDiff]
    rw [c_sign1 T' n2 j1, zbE, show f_J0_indexOf_0f7a4_1000102 (((pk b n (sk b n i + 1)).toUInt32 % 65536).toInt32) (tS X (sk b n (sk b n i + 1)) (-1)) = some (sx_2 u, tS X (sk b n (sk b n i + 1)) (-1)) by rw [u2]; exact c_idx_2 u1 _, zbE]
    rfl
  have KK : KI1 q X X2 := fun c hc => by
    rw [x4 c (by omega) hc, y4 c (by omega) hc]
    exact ⟨rfl, usb_1 c hc⟩
  rcases k_items_1 (w := w) TB hq n (sk b n i + 1) 0 zN zN 0 X X2 u (by omega) T' T2' j1 (by omega) (by unfold zN; omega) (by unfold zN; omega) u1 u2 KK with ⟨S', S2', i', o1, o2, o3, o4, o5, o6, o7⟩ | ⟨y, S', S2', k1, f1, k2, o1, o2, o3, o4, o5, o6⟩
  · left
    refine ⟨S', S2', i', ?_, o2, by omega, o4, y2.tr o5, x2.tr o6, o7⟩
    rw [ci, it, o1, zbE]
  · right
    refine ⟨y, S', S2', k1, f1, k2, ?_, o2, o3, o4, y2.tr o5, x2.tr o6⟩
    rw [ci, it, o1, zbE]
theorem r_us_2 (ex : Int32 → zS → Option (Unit × zS)) {q : Nat} (hq : q < 4) : ∀ (d c fu : Nat) (S : zS), c + d = 2 → d < fu → ∃ S', f_X12_readClause_L221 ex 116 1 (Int32.ofNat (2 * q)) fu (Int32.ofNat c) (rS S i (-1) w) = ex (Int32.ofNat 2) (rS S' i (-1) w) ∧ frc 51 (2 * q) (2 * q + 2) S S' ∧ (∀ c', c' < c → S'.1 51 (2 * q + c') = S.1 51 (2 * q + c')) ∧ ∀ c', c ≤ c' → c' < 2 → S'.1 51 (2 * q + c') = zc_1000007 (11 + c')
  | 0, c, fu, S, hc, hf => by
    obtain ⟨z, rfl⟩ : ∃ z, fu = z + 1 := ⟨fu - 1, by omega⟩
    have e : c = 2 := by omega
    subst e
    rw [f_X12_readClause_L221, show f_J0_length_8abf5_1000103 (rS S i (-1) w) = some (Int32.ofNat 2, rS S i (-1) w) from rfl, zbE, if_pos (Int32.le_refl _)]
    exact ⟨S, rfl, frc.rfl' S, fun _ _ => rfl, fun c' h1 h2 => by omega⟩
  | d + 1, c, fu, S, hc, hf => by
    obtain ⟨z, rfl⟩ : ∃ z, fu = z + 1 := ⟨fu - 1, by omega⟩
    rw [f_X12_readClause_L221, show f_J0_length_8abf5_1000103 (rS S i (-1) w) = some (Int32.ofNat 2, rS S i (-1) w) from rfl, zbE, if_neg (fun h => by have := (io_le (by omega) (by omega)).mp h; omega), usual_2 c (by omega), zbE, ix_aa, if_pos (io_in (show 2 * q + c < 8 by omega) (by omega)), zlE, zlE, io_cl (by omega), rS_so (by decide), io_sc]
    obtain ⟨S', o1, o2, o3, o4⟩ := r_us_2 ex hq d (c + 1) z (sV S 51 (2 * q + c) (zc_1000007 (11 + c))) (by omega) (by omega)
    refine ⟨S', o1, (frc.set S (by omega) (by omega) _).tr o2, fun c' h => ?_, fun c' h1 h2 => ?_⟩
    · rw [o3 c' (by omega), sV_g, if_neg (fun q => by omega)]
    · by_cases e : c' = c
      · subst e
        rw [o3 c' (by omega), sV_g, if_pos ⟨rfl, rfl⟩]
      · exact o4 c' (by omega) h2
theorem c_us_2 (ex : Int32 → zS → Option (Unit × zS)) {q : Nat} (hq : q < 4) : ∀ (d c fu : Nat) (S : zS), c + d = 2 → d < fu → ∃ S', f_X4_readClause_L81 ex (Int32.ofNat 2) (Int32.ofNat q) fu (Int32.ofNat c) (tS S i f) = ex (Int32.ofNat 2) (tS S' i f) ∧ frc 6 (54 + 2 * q) (54 + 2 * q + 2) S S' ∧ (∀ c', c' < c → S'.1 6 (54 + 2 * q + c') = S.1 6 (54 + 2 * q + c')) ∧ ∀ c', c ≤ c' → c' < 2 → S'.1 6 (54 + 2 * q + c') = zc_1000007 (11 + c')
  | 0, c, fu, S, hc, hf => by
    obtain ⟨z, rfl⟩ : ∃ z, fu = z + 1 := ⟨fu - 1, by omega⟩
    have e : c = 2 := by omega
    subst e
    rw [f_X4_readClause_L81, if_pos (show ia_in (Int32.ofNat 2) 3 = true by decide), show zc_1000002 (Int32.ofNat 2).toNatClampNeg = Int32.ofNat 2 by decide, if_pos (Int32.le_refl _)]
    exact ⟨S, rfl, frc.rfl' S, fun _ _ => rfl, fun c' h1 h2 => by omega⟩
  | d + 1, c, fu, S, hc, hf => by
    obtain ⟨z, rfl⟩ : ∃ z, fu = z + 1 := ⟨fu - 1, by omega⟩
    have cell : ∀ X : zS, f_X10_cellOf (Int32.ofNat 2) (Int32.ofNat q) (Int32.ofNat c) X = some (Int32.ofNat (54 + 2 * q + c), X) := by
      intro X
      unfold f_X10_cellOf
      rw [if_pos (show ia_in (Int32.ofNat 2) 3 = true by decide), if_pos (show ia_in (Int32.ofNat 2) 3 = true by decide), show zc_1000003 (Int32.ofNat 2).toNatClampNeg = Int32.ofNat 54 by decide, show zc_1000002 (Int32.ofNat 2).toNatClampNeg = Int32.ofNat 2 by decide, cellE]
    rw [f_X4_readClause_L81, if_pos (show ia_in (Int32.ofNat 2) 3 = true by decide), show zc_1000002 (Int32.ofNat 2).toNatClampNeg = Int32.ofNat 2 by decide, if_neg (fun h => by have := (io_le (by omega) (by omega)).mp h; omega), cell, zbE, if_pos (show ia_in (Int32.ofNat 2) 3 = true by decide), show zc_1000004 (Int32.ofNat 2).toNatClampNeg = Int32.ofNat 11 by decide, ix_aa, if_pos (io_in (show 11 + c < 13 by omega) (by omega)), if_pos (io_in (show 54 + 2 * q + c < 62 by omega) (by omega)), zlE, zlE, io_cl (show 54 + 2 * q + c < 2147483648 by omega), io_cl (show 11 + c < 2147483648 by omega), tS_sk (by decide), io_sc]
    obtain ⟨S', o1, o2, o3, o4⟩ := c_us_2 ex hq d (c + 1) z (sV S 6 (54 + 2 * q + c) (zc_1000007 (11 + c))) (by omega) (by omega)
    refine ⟨S', o1, (frc.set S (by omega) (by omega) _).tr o2, fun c' h => ?_, fun c' h1 h2 => ?_⟩
    · rw [o3 c' (by omega), sV_g, if_neg (fun q => by omega)]
    · by_cases e : c' = c
      · subst e
        rw [o3 c' (by omega), sV_g, if_pos ⟨rfl, rfl⟩]
      · exact o4 c' (by omega) h2
theorem k_cl_2 {S S2 : zS} (TB : TxB b n) {q : Nat} (hq : q < 4) (T : CTx S b n) (T2 : RTx S2 b n) (hi : i ≤ n) (hc : pk b n i = 116) (h5 : S.1 5 2 = Int32.ofNat q) (h41 : S2.1 41 29 = Int32.ofNat q) :
    (∃ S' S2' i', f_X4_readClause (tS S i (-1)) = some ((), tS S' i' (-1)) ∧ f_X12_readClause (rS S2 i (-1) w) = some ((), rS S2' i' (-1) w) ∧ i < i' ∧ i' ≤ n ∧ frc 6 (54 + 2 * q) (54 + 2 * q + 2) (sV S 5 2 (Int32.ofNat (q + 1))) S' ∧ frc 51 (2 * q) (2 * q + 2) (sV S2 41 29 (Int32.ofNat (q + 1))) S2' ∧ KI2 q S' S2') ∨
    (∃ y S' S2' i1 f1 i2, f_X4_readClause (tS S i (-1)) = some ((), tS S' i1 f1) ∧ f_X12_readClause (rS S2 i (-1) w) = some ((), rS S2' i2 (Int32.ofNat y) w) ∧ y ≤ n ∧ stk b n y i1 f1 ∧ frc 6 (54 + 2 * q) (54 + 2 * q + 2) (sV S 5 2 (Int32.ofNat (q + 1))) S' ∧ frc 51 (2 * q) (2 * q + 2) (sV S2 41 29 (Int32.ofNat (q + 1))) S2') := by
  have n2 := TB.1
  have s1 := sk_ge (b := b) hi
  have lt := pkn_lt hc (by decide)
  have j1 : sk b n i + 1 ≤ n := by omega
  have t1 := sk_ge (b := b) j1
  have hlk : f_X12_look (rS S2 i (-1) w) = some (116, rS S2 (sk b n i) (-1) w) := by rw [r_look T2 hi, lk_pk (by decide) hc]
  have e41 : (rS S2 (sk b n i) (-1) w).1 41 29 = Int32.ofNat q := by rw [rS_k (by decide)]; exact h41
  have nf : ¬ (4 : Int32) ≤ (rS S2 (sk b n i) (-1) w).1 41 29 := fun h => by rw [e41] at h; have := (io_le (a := 4) (by omega) (by omega)).mp h; omega
  rw [r_cl_116 hlk nf, rS_up, rS_k (k := 29) (by decide), h41, io_sc, rS_sk (by decide), ix_m2]
  obtain ⟨X2, x1, x2, -, x4⟩ := r_us_2 (i := sk b n i + 1) (w := w) (fun (q1 : Int32) (S2 : zS) => zb (f_X12_look S2) fun r3 S4 => zb (f_X12_placeOf_1000103 r3 S4) fun r5 S6 => f_X12_readClause_L264 (fun (q79 : Int32) (q80 : Int32) (S78 : zS) => some ((), S78)) 116 1 (Int32.ofNat (2 * q)) zN 0 r5 S6) hq 2 0 zN (sV S2 41 29 (Int32.ofNat (q + 1))) (by omega) (by unfold zN; omega)
  have T2' := x2.R (by decide) (by decide) (by decide) (T2.s41 (k := 29) (by decide) (by decide) (Int32.ofNat (q + 1)))
  rw [show f_X12_readClause_L221 (fun (q1 : Int32) (S2 : zS) => zb (f_X12_look S2) fun r3 S4 => zb (f_X12_placeOf_1000103 r3 S4) fun r5 S6 => f_X12_readClause_L264 (fun (q79 : Int32) (q80 : Int32) (S78 : zS) => some ((), S78)) 116 1 (Int32.ofNat (2 * q)) zN 0 r5 S6) 116 1 (Int32.ofNat (2 * q)) zN 0 (rS (sV S2 41 29 (Int32.ofNat (q + 1))) (sk b n i + 1) (-1) w) = _ from x1]
  obtain ⟨u, u1, u2⟩ := pk_v' TB j1
  rw [r_look T2' j1, zbE, r_pl_3, zbE, px_lk_3 u1 u2]
  obtain ⟨X, y1, y2, -, y4⟩ := c_us_2 (i := sk b n i + 1) (f := -1) (fun (q33 : Int32) (S32 : zS) => zb (f_X4_readItems (Int32.ofNat 2) (Int32.ofNat q) S32) fun _ S34 => some ((), S34)) hq 2 0 zN (sV S 5 2 (Int32.ofNat (q + 1))) (by omega) (by unfold zN; omega)
  have T' := y2.C (by decide) (by decide) (T.s5 2 (Int32.ofNat (q + 1)))
  have ci : f_X4_readClause (tS S i (-1)) = zb (f_X4_readItems (Int32.ofNat 2) (Int32.ofNat q) (tS X (sk b n i + 1) (-1))) fun _ S34 => some ((), S34) := by
    have v5 : ∀ X : Nat, (tS S X (-1)).1 5 (Int32.ofNat 2).toNatClampNeg = Int32.ofNat q := fun X => by rw [tS_b (by decide)]; exact h5
    unfold f_X4_readClause
    rw [c_sign1 T n2 hi, zbE, hc, show f_J0_indexOf_0f7a4_1000100 (((116 : Int32).toUInt32 % 65536).toInt32) (tS S (sk b n i) (-1)) = some (Int32.ofNat 2, tS S (sk b n i) (-1)) from c_idx_0 (v := 116) (by decide) _, zbE, zlE, if_neg (show ¬ Int32.ofNat 2 < 0 by decide), if_pos (show ia_in (Int32.ofNat 2) 3 = true by decide), if_pos (show ia_in (Int32.ofNat 2) 3 = true by decide), v5, show zc_1000001 (Int32.ofNat 2).toNatClampNeg = Int32.ofNat 4 by decide, if_pos ((io_lt (by omega) (by omega)).mpr hq), zlE, tS_up, if_pos (show ia_in (Int32.ofNat 2) 3 = true by decide), zlE, if_pos (show ia_in (Int32.ofNat 2) 3 = true by decide), if_pos (show ia_in (Int32.ofNat 2) 3 = true by decide), zlE, v5, io_sc, show (Int32.ofNat 2).toNatClampNeg = 2 by decide, tS_sk (by decide)]
    exact y1
  have it : f_X4_readItems (Int32.ofNat 2) (Int32.ofNat q) (tS X (sk b n i + 1) (-1)) = f_X4_readItems_L25b (fun (q35 : Int32) (q36 : Int32) (q37 : Int32) (S34 : zS) => some ((), S34)) (Int32.ofNat 2) (Int32.ofNat q) zN 0 (sx_3 u) (Int32.ofNat 0) (tS X (sk b n (sk b n i + 1)) (-1)) := by
    unfold f_X4_readItems
    rw [show f_X4_lettersOf (Int32.ofNat 2) (tS X (sk b n i + 1) (-1)) = some (.ref 1000103, tS X (sk b n i + 1) (-1)) from rfl, zbE]
    simp only [↓reduceIte, Value.ref.injEq, Nat.reduceEqDiff]
    rw [c_sign1 T' n2 j1, zbE, show f_J0_indexOf_0f7a4_1000103 (((pk b n (sk b n i + 1)).toUInt32 % 65536).toInt32) (tS X (sk b n (sk b n i + 1)) (-1)) = some (sx_3 u, tS X (sk b n (sk b n i + 1)) (-1)) by rw [u2]; exact c_idx_3 u1 _, zbE]
    rfl
  have KK : KI2 q X X2 := fun c hc => by
    rw [x4 c (by omega) hc, y4 c (by omega) hc]
    exact ⟨rfl, usb_2 c hc⟩
  rcases k_items_2 (w := w) TB hq n (sk b n i + 1) 0 zN zN 0 X X2 u (by omega) T' T2' j1 (by omega) (by unfold zN; omega) (by unfold zN; omega) u1 u2 KK with ⟨S', S2', i', o1, o2, o3, o4, o5, o6, o7⟩ | ⟨y, S', S2', k1, f1, k2, o1, o2, o3, o4, o5, o6⟩
  · left
    refine ⟨S', S2', i', ?_, o2, by omega, o4, y2.tr o5, x2.tr o6, o7⟩
    rw [ci, it, o1, zbE]
  · right
    refine ⟨y, S', S2', k1, f1, k2, ?_, o2, o3, o4, y2.tr o5, x2.tr o6⟩
    rw [ci, it, o1, zbE]

end PI
