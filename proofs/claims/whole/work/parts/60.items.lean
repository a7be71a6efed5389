/-! Kitchens: items of a clause (written by wip/whole/gen60.py). -/
section PH
variable {b : Nat → Int32} {n : Nat} {i : Nat} {f w : Int32}
def frc (a lo hi : Nat) (S S' : zS) : Prop := S'.2 = S.2 ∧ (∀ c, c ≠ a → S'.1 c = S.1 c) ∧ ∀ k, (k < lo ∨ hi ≤ k) → S'.1 a k = S.1 a k
theorem frc.rfl' {a lo hi : Nat} (S : zS) : frc a lo hi S S := ⟨rfl, fun _ _ => rfl, fun _ _ => rfl⟩
theorem frc.tr {a lo hi : Nat} {S S' S2 : zS} (h1 : frc a lo hi S S') (h2 : frc a lo hi S' S2) : frc a lo hi S S2 := ⟨h2.1.trans h1.1, fun c hc => (h2.2.1 c hc).trans (h1.2.1 c hc), fun k hk => (h2.2.2 k hk).trans (h1.2.2 k hk)⟩
theorem frc.set {a lo hi k : Nat} (S : zS) (h1 : lo ≤ k) (h2 : k < hi) (x : Int32) : frc a lo hi S (sV S a k x) := by
  refine ⟨rfl, fun c hc => ?_, fun j hj => ?_⟩
  · rw [sV_eq]
    exact sR_ne _ _ hc
  · rw [sV_g, if_neg (fun q => by omega)]
theorem frc.C {a lo hi : Nat} {S S' : zS} (h : frc a lo hi S S') (h1 : 1 ≠ a) (h2 : 2 ≠ a) (T : CTx S b n) : CTx S' b n := ⟨by rw [h.2.1 1 h1]; exact T.1, by rw [h.2.1 2 h2]; exact T.2⟩
theorem frc.R {a lo hi : Nat} {S S' : zS} (h : frc a lo hi S S') (h1 : 41 ≠ a) (h2 : 42 ≠ a) (h3 : 43 ≠ a) (T : RTx S b n) : RTx S' b n := by
  unfold RTx
  rw [h.1, h.2.1 41 h1, h.2.1 42 h2, h.2.1 43 h3]
  exact T
def stk (b : Nat → Int32) (n x i : Nat) (f : Int32) : Prop := (i ≤ n ∧ f = Int32.ofNat x) ∨ (i ≤ n ∧ f = -1 ∧ sk b n i = x ∧ x < n ∧ pk b n i ≠ 59)
theorem cellE {o m q c : Nat} : Int32.ofNat o + Int32.ofNat q * Int32.ofNat m + Int32.ofNat c = Int32.ofNat (o + m * q + c) := by
  rw [← Int32.ofNat_mul, ← Int32.ofNat_add, ← Int32.ofNat_add, Nat.mul_comm q m]
theorem sxt_1 : ∀ v, v < 256 → px_1 (Int32.ofNat v) = sx_1 v ∧ (sx_1 v = -1 ∨ (v ≠ 0 ∧ v ≠ 59 ∧ sx_1 v = Int32.ofNat (sx_1 v).toNatClampNeg ∧ (sx_1 v).toNatClampNeg < 6)) := by decide +kernel
theorem px_lk_1 {u : Nat} (hu : u < 256) (h : pk b n i = Int32.ofNat u) : px_1 (lk b n i) = sx_1 u := by
  rw [← (sxt_1 u hu).1, ← h]
  unfold lk pk
  split
  · rfl
  · decide
def KI0 (q : Nat) (S S2 : zS) : Prop := ∀ c, c < 6 → S.1 6 (0 + 6 * q + c) = S2.1 47 (6 * q + c) ∧ ¬ S2.1 47 (6 * q + c) < zc_1000005 (0 + c) ∧ ¬ zc_1000006 (0 + c) < S2.1 47 (6 * q + c)
theorem least_0 : ∀ c, c < 6 → ∀ S, f_X12_leastOf 106 (Int32.ofNat c) S = some (zc_1000005 (0 + c), S) := by
  intro c hc S
  rcases (show c = 0 ∨ c = 1 ∨ c = 2 ∨ c = 3 ∨ c = 4 ∨ c = 5 by omega) with rfl | rfl | rfl | rfl | rfl | rfl <;> rfl
theorem most_0 : ∀ c, c < 6 → ∀ S, f_X12_mostOf 106 (Int32.ofNat c) S = some (zc_1000006 (0 + c), S) := by
  intro c hc S
  rcases (show c = 0 ∨ c = 1 ∨ c = 2 ∨ c = 3 ∨ c = 4 ∨ c = 5 by omega) with rfl | rfl | rfl | rfl | rfl | rfl <;> rfl
theorem usual_0 : ∀ c, c < 6 → ∀ S, f_X12_usual 106 (Int32.ofNat c) S = some (zc_1000007 (0 + c), S) := by
  intro c hc S
  rcases (show c = 0 ∨ c = 1 ∨ c = 2 ∨ c = 3 ∨ c = 4 ∨ c = 5 by omega) with rfl | rfl | rfl | rfl | rfl | rfl <;> rfl
theorem usb_0 : ∀ c, c < 6 → ¬ zc_1000007 (0 + c) < zc_1000005 (0 + c) ∧ ¬ zc_1000006 (0 + c) < zc_1000007 (0 + c) := by decide
theorem KI0.set {q c : Nat} {S S2 : zS} (H : KI0 q S S2) (hc : c < 6) {v : Int32} (h1 : ¬ v < zc_1000005 (0 + c)) (h2 : ¬ zc_1000006 (0 + c) < v) : KI0 q (sV S 6 (0 + 6 * q + c) v) (sV S2 47 (6 * q + c) v) := by
  intro c' hc'
  rw [sV_g, sV_g]
  by_cases e : c' = c
  · subst e
    rw [if_pos ⟨rfl, rfl⟩, if_pos ⟨rfl, rfl⟩]
    exact ⟨rfl, h1, h2⟩
  · rw [if_neg (fun z => by omega), if_neg (fun z => by omega)]
    exact H c' hc'
theorem k_items_0 (TB : TxB b n) {q : Nat} (hq : q < 4) : ∀ (d i x fu fu2 : Nat) (bits : Int32) (S S2 : zS) (u : Nat), n - i ≤ d → CTx S b n → RTx S2 b n → i ≤ n → x + x ≤ i → d + 1 < fu → d + 1 < fu2 → u < 256 → pk b n i = Int32.ofNat u → KI0 q S S2 →
    (∃ S' S2' i', f_X4_readItems_L25 (fun (q35 : Int32) (q36 : Int32) (q37 : Int32) (S34 : zS) => some ((), S34)) (Int32.ofNat 0) (Int32.ofNat q) fu bits (sx_1 u) (Int32.ofNat x) (tS S (sk b n i) (-1)) = some ((), tS S' i' (-1)) ∧ f_X12_readClause_L264h (fun (q79 : Int32) (q80 : Int32) (S78 : zS) => some ((), S78)) 106 1 (Int32.ofNat (6 * q)) fu2 bits (sx_1 u) (rS S2 (sk b n i) (-1) w) = some ((), rS S2' i' (-1) w) ∧ i ≤ i' ∧ i' ≤ n ∧ frc 6 (0 + 6 * q) (0 + 6 * q + 6) S S' ∧ frc 47 (6 * q) (6 * q + 6) S2 S2' ∧ KI0 q S' S2') ∨
    (∃ y S' S2' i1 f1 i2, f_X4_readItems_L25 (fun (q35 : Int32) (q36 : Int32) (q37 : Int32) (S34 : zS) => some ((), S34)) (Int32.ofNat 0) (Int32.ofNat q) fu bits (sx_1 u) (Int32.ofNat x) (tS S (sk b n i) (-1)) = some ((), tS S' i1 f1) ∧ f_X12_readClause_L264h (fun (q79 : Int32) (q80 : Int32) (S78 : zS) => some ((), S78)) 106 1 (Int32.ofNat (6 * q)) fu2 bits (sx_1 u) (rS S2 (sk b n i) (-1) w) = some ((), rS S2' i2 (Int32.ofNat y) w) ∧ y ≤ n ∧ stk b n y i1 f1 ∧ frc 6 (0 + 6 * q) (0 + 6 * q + 6) S S' ∧ frc 47 (6 * q) (6 * q + 6) S2 S2') := by
  intro d
  induction d with
  | zero =>
    intro i x fu fu2 bits S S2 u hd T T2 hi hx hf hf2 hu hp H
    obtain ⟨z, rfl⟩ : ∃ z, fu = z + 1 := ⟨fu - 1, by omega⟩
    obtain ⟨z2, rfl⟩ : ∃ z2, fu2 = z2 + 1 := ⟨fu2 - 1, by omega⟩
    have e1 : sk b n i = i := by rw [sk_un, if_neg (fun q => by omega)]
    have u0 : u = 0 := by
      have : pk b n i = 0 := (pk_0 TB hi).mpr (by rw [e1]; omega)
      exact (io_eq (b := 0) (by omega) (by omega)).mp (hp.symm.trans this)
    subst u0
    have e2 : sx_1 0 = -1 := by decide
    left
    rw [e2, f_X4_readItems_L25, f_X12_readClause_L264h, if_pos (show (-1 : Int32) < 0 by decide), ite_self, if_pos rfl, e1]
    exact ⟨S, S2, i, rfl, rfl, Nat.le_refl _, hi, frc.rfl' S, frc.rfl' S2, H⟩
  | succ d ih =>
    intro i x fu fu2 bits S S2 u hd T T2 hi hx hf hf2 hu hp H
    obtain ⟨z, rfl⟩ : ∃ z, fu = z + 1 := ⟨fu - 1, by omega⟩
    obtain ⟨z2, rfl⟩ : ∃ z2, fu2 = z2 + 1 := ⟨fu2 - 1, by omega⟩
    obtain ⟨z', rfl⟩ : ∃ z', z = z' + 1 := ⟨z - 1, by omega⟩
    obtain ⟨z2', rfl⟩ : ∃ z2', z2 = z2' + 1 := ⟨z2 - 1, by omega⟩
    have n2 := TB.1
    have s1 := sk_ge (b := b) hi
    have s2 := sk_le (b := b) hi
    rw [f_X4_readItems_L25, f_X12_readClause_L264h, if_neg (fun q => by have := (io_le (a := 200) (by omega) (by omega)).mp q; omega)]
    rcases (sxt_1 u hu).2 with e2 | ⟨e0, e59, ec, hc⟩
    · left
      rw [e2, if_pos (show (-1 : Int32) < 0 by decide), if_pos rfl]
      exact ⟨S, S2, sk b n i, rfl, rfl, s1, s2, frc.rfl' S, frc.rfl' S2, H⟩
    · generalize (sx_1 u).toNatClampNeg = c at ec hc
      rw [ec]
      have lt : sk b n i < n := pkn_lt hp (fun z => e0 ((io_eq (b := 0) (by omega) (by omega)).mp z))
      have nl : ¬ Int32.ofNat c < 0 := fun z => by rw [i_lt0, ti_nat (by omega)] at z; omega
      rw [if_neg nl, if_neg (io_ne1 (by omega)), rS_11, if_neg m1]
      unfold f_X12_has
      rcases and1 (bits >>> (Int32.ofNat c &&& 31)) with y0 | y0
      · rw [y0, if_neg (nn rfl), if_pos (show ¬ (0 : Int32) = 1 by decide), zbE, if_pos rfl]
        simp only [zlE, tS_up]
        rw [if_pos (show ia_in (Int32.ofNat 0) 3 = true by decide), show zc_1000004 (Int32.ofNat 0).toNatClampNeg = Int32.ofNat 0 by decide, ix_aa, if_pos (show ia_in (Int32.ofNat (0 + c)) 13 = true from io_in (by omega) (by omega)), if_pos (show ia_in (Int32.ofNat (0 + c)) 13 = true from io_in (by omega) (by omega)), io_cl (show 0 + c < 2147483648 by omega), least_0 c hc, zbE, most_0 c hc, zbE, ix_aa]
        obtain ⟨C1, C2⟩ := c_itm T TB (show sk b n i + 1 ≤ n by omega) (zc_1000005 (0 + c)) (zc_1000006 (0 + c))
        obtain ⟨R1, R2⟩ := r_itm_47 (w := w) T2 lt (zc_1000005 (0 + c)) (zc_1000006 (0 + c)) (show 6 * q + c < 24 by omega)
        have cell : ∀ X : zS, f_X10_cellOf (Int32.ofNat 0) (Int32.ofNat q) (Int32.ofNat c) X = some (Int32.ofNat (0 + 6 * q + c), X) := by
          intro X
          unfold f_X10_cellOf
          rw [if_pos (show ia_in (Int32.ofNat 0) 3 = true by decide), if_pos (show ia_in (Int32.ofNat 0) 3 = true by decide), show zc_1000003 (Int32.ofNat 0).toNatClampNeg = Int32.ofNat 0 by decide, show zc_1000002 (Int32.ofNat 0).toNatClampNeg = Int32.ofNat 6 by decide, cellE]
        cases hm : pItem b n (zc_1000005 (0 + c)) (zc_1000006 (0 + c)) (sk b n i + 1) with
        | inl y =>
          right
          obtain ⟨hy, v, i', hi', ho⟩ := C1 y hm
          obtain ⟨i2, ho2⟩ := R1 y hm
          rw [ho, zbE, cell, zbE, if_pos (io_in (show 0 + 6 * q + c < 62 by omega) (by omega)), io_cl (show 0 + 6 * q + c < 2147483648 by omega), tS_sk (by decide)]
          have F := frc.set (a := 6) (lo := 0 + 6 * q) (hi := 0 + 6 * q + 6) (k := 0 + 6 * q + c) S (by omega) (by omega) v
          rw [c_sign0 (F.C (by decide) (by decide) T) n2 hi' (by omega), zbE, show f_J0_indexOf_0f7a4_1000101 (((0 : Int32).toUInt32 % 65536).toInt32) (tS (sV S 6 (0 + 6 * q + c) v) (sk b n i') (Int32.ofNat y)) = some (-1, _) from c_idx_1 (v := 0) (by decide) _, zbE, f_X4_readItems_L25, if_pos (show (-1 : Int32) < 0 by decide), ite_self]
          rw [ho2, zbE, rS_11, if_pos (io_ne1 (by omega)), f_X12_readClause_L264h, if_neg (io_ne1 (by omega)), rS_11, if_pos (io_ne1 (by omega))]
          exact ⟨y, _, S2, _, _, _, rfl, rfl, hy, Or.inl ⟨sk_le hi', rfl⟩, F, frc.rfl' S2⟩
        | inr r =>
          obtain ⟨i1, cc⟩ := r
          obtain ⟨v, hv, g1, g2, g3, g4, ho⟩ := C2 i1 cc hm
          obtain ⟨v', hv', ho2⟩ := R2 i1 cc hm
          have ev : v' = v := by rw [hv] at hv'; injection hv' with h _; exact h.symm
          subst ev
          obtain ⟨u1, h1, h2⟩ := pk_v' TB g2
          rw [ho, zbE, cell, zbE, if_pos (io_in (show 0 + 6 * q + c < 62 by omega) (by omega)), io_cl (show 0 + 6 * q + c < 2147483648 by omega), tS_sk (by decide)]
          have F := frc.set (a := 6) (lo := 0 + 6 * q) (hi := 0 + 6 * q + 6) (k := 0 + 6 * q + c) S (by omega) (by omega) v'
          have F2 := frc.set (a := 47) (lo := 6 * q) (hi := 6 * q + 6) (k := 6 * q + c) S2 (by omega) (by omega) v'
          have T' := F.C (by decide) (by decide) T
          have T2' := F2.R (by decide) (by decide) (by decide) T2
          rw [c_sign1 T' n2 g2, zbE, show f_J0_indexOf_0f7a4_1000101 (((pk b n i1).toUInt32 % 65536).toInt32) (tS (sV S 6 (0 + 6 * q + c) v') (sk b n i1) (-1)) = some (sx_1 u1, tS (sV S 6 (0 + 6 * q + c) v') (sk b n i1) (-1)) by rw [h2]; exact c_idx_1 h1 _, zbE]
          rw [ho2, zbE, rS_11, if_neg m1, r_look T2' g2, zbE, r_pl_1, zbE, px_lk_1 h1 h2, io_sc]
          rcases ih i1 (x + 1) (z' + 1) (z2' + 1) (bits ||| (1 <<< (Int32.ofNat c &&& 31))) _ _ u1 (by omega) T' T2' g2 (by omega) (by omega) (by omega) h1 h2 (H.set hc g3 g4) with ⟨S', S2', i', o1, o2, o3, o4, o5, o6, o7⟩ | ⟨y, S', S2', j1, f1, j2, o1, o2, o3, o4, o5, o6⟩
          · left
            exact ⟨S', S2', i', o1, o2, by omega, o4, F.tr o5, F2.tr o6, o7⟩
          · right
            exact ⟨y, S', S2', j1, f1, j2, o1, o2, o3, o4, F.tr o5, F2.tr o6⟩
      · right
        rw [y0, if_pos (show ¬ (1 : Int32) = 0 by decide), if_neg (nn rfl), zbE, if_neg (show ¬ (1 : Int32) = 0 by decide), r_fails1, zbE]
        refine ⟨sk b n i, S, S2, _, _, _, rfl, rfl, s2, Or.inr ⟨s2, rfl, sk_sk hi, lt, ?_⟩, frc.rfl' S, frc.rfl' S2⟩
        rw [pk_sk hi, hp]
        exact fun z => e59 ((io_eq (b := 59) (by omega) (by omega)).mp z)
theorem sxt_2 : ∀ v, v < 256 → px_2 (Int32.ofNat v) = sx_2 v ∧ (sx_2 v = -1 ∨ (v ≠ 0 ∧ v ≠ 59 ∧ sx_2 v = Int32.ofNat (sx_2 v).toNatClampNeg ∧ (sx_2 v).toNatClampNeg < 5)) := by decide +kernel
theorem px_lk_2 {u : Nat} (hu : u < 256) (h : pk b n i = Int32.ofNat u) : px_2 (lk b n i) = sx_2 u := by
  rw [← (sxt_2 u hu).1, ← h]
  unfold lk pk
  split
  · rfl
  · decide
def KI1 (q : Nat) (S S2 : zS) : Prop := ∀ c, c < 5 → S.1 6 (24 + 5 * q + c) = S2.1 49 (5 * q + c) ∧ ¬ S2.1 49 (5 * q + c) < zc_1000005 (6 + c) ∧ ¬ zc_1000006 (6 + c) < S2.1 49 (5 * q + c)
theorem least_1 : ∀ c, c < 5 → ∀ S, f_X12_leastOf 104 (Int32.ofNat c) S = some (zc_1000005 (6 + c), S) := by
  intro c hc S
  rcases (show c = 0 ∨ c = 1 ∨ c = 2 ∨ c = 3 ∨ c = 4 by omega) with rfl | rfl | rfl | rfl | rfl <;> rfl
theorem most_1 : ∀ c, c < 5 → ∀ S, f_X12_mostOf 104 (Int32.ofNat c) S = some (zc_1000006 (6 + c), S) := by
  intro c hc S
  rcases (show c = 0 ∨ c = 1 ∨ c = 2 ∨ c = 3 ∨ c = 4 by omega) with rfl | rfl | rfl | rfl | rfl <;> rfl
theorem usual_1 : ∀ c, c < 5 → ∀ S, f_X12_usual 104 (Int32.ofNat c) S = some (zc_1000007 (6 + c), S) := by
  intro c hc S
  rcases (show c = 0 ∨ c = 1 ∨ c = 2 ∨ c = 3 ∨ c = 4 by omega) with rfl | rfl | rfl | rfl | rfl <;> rfl
theorem usb_1 : ∀ c, c < 5 → ¬ zc_1000007 (6 + c) < zc_1000005 (6 + c) ∧ ¬ zc_1000006 (6 + c) < zc_1000007 (6 + c) := by decide
theorem KI1.set {q c : Nat} {S S2 : zS} (H : KI1 q S S2) (hc : c < 5) {v : Int32} (h1 : ¬ v < zc_1000005 (6 + c)) (h2 : ¬ zc_1000006 (6 + c) < v) : KI1 q (sV S 6 (24 + 5 * q + c) v) (sV S2 49 (5 * q + c) v) := by
  intro c' hc'
  rw [sV_g, sV_g]
  by_cases e : c' = c
  · subst e
    rw [if_pos ⟨rfl, rfl⟩, if_pos ⟨rfl, rfl⟩]
    exact ⟨rfl, h1, h2⟩
  · rw [if_neg (fun z => by omega), if_neg (fun z => by omega)]
    exact H c' hc'
theorem k_items_1 (TB : TxB b n) {q : Nat} (hq : q < 6) : ∀ (d i x fu fu2 : Nat) (bits : Int32) (S S2 : zS) (u : Nat), n - i ≤ d → CTx S b n → RTx S2 b n → i ≤ n → x + x ≤ i → d + 1 < fu → d + 1 < fu2 → u < 256 → pk b n i = Int32.ofNat u → KI1 q S S2 →
    (∃ S' S2' i', f_X4_readItems_L25a (fun (q35 : Int32) (q36 : Int32) (q37 : Int32) (S34 : zS) => some ((), S34)) (Int32.ofNat 1) (Int32.ofNat q) fu bits (sx_2 u) (Int32.ofNat x) (tS S (sk b n i) (-1)) = some ((), tS S' i' (-1)) ∧ f_X12_readClause_L264d (fun (q79 : Int32) (q80 : Int32) (S78 : zS) => some ((), S78)) 104 1 (Int32.ofNat (5 * q)) fu2 bits (sx_2 u) (rS S2 (sk b n i) (-1) w) = some ((), rS S2' i' (-1) w) ∧ i ≤ i' ∧ i' ≤ n ∧ frc 6 (24 + 5 * q) (24 + 5 * q + 5) S S' ∧ frc 49 (5 * q) (5 * q + 5) S2 S2' ∧ KI1 q S' S2') ∨
    (∃ y S' S2' i1 f1 i2, f_X4_readItems_L25a (fun (q35 : Int32) (q36 : Int32) (q37 : Int32) (S34 : zS) => some ((), S34)) (Int32.ofNat 1) (Int32.ofNat q) fu bits (sx_2 u) (Int32.ofNat x) (tS S (sk b n i) (-1)) = some ((), tS S' i1 f1) ∧ f_X12_readClause_L264d (fun (q79 : Int32) (q80 : Int32) (S78 : zS) => some ((), S78)) 104 1 (Int32.ofNat (5 * q)) fu2 bits (sx_2 u) (rS S2 (sk b n i) (-1) w) = some ((), rS S2' i2 (Int32.ofNat y) w) ∧ y ≤ n ∧ stk b n y i1 f1 ∧ frc 6 (24 + 5 * q) (24 + 5 * q + 5) S S' ∧ frc 49 (5 * q) (5 * q + 5) S2 S2') := by
  intro d
  induction d with
  | zero =>
    intro i x fu fu2 bits S S2 u hd T T2 hi hx hf hf2 hu hp H
    obtain ⟨z, rfl⟩ : ∃ z, fu = z + 1 := ⟨fu - 1, by omega⟩
    obtain ⟨z2, rfl⟩ : ∃ z2, fu2 = z2 + 1 := ⟨fu2 - 1, by omega⟩
    have e1 : sk b n i = i := by rw [sk_un, if_neg (fun q => by omega)]
    have u0 : u = 0 := by
      have : pk b n i = 0 := (pk_0 TB hi).mpr (by rw [e1]; omega)
      exact (io_eq (b := 0) (by omega) (by omega)).mp (hp.symm.trans this)
    subst u0
    have e2 : sx_2 0 = -1 := by decide
    left
    rw [e2, f_X4_readItems_L25a, f_X12_readClause_L264d, if_pos (show (-1 : Int32) < 0 by decide), ite_self, if_pos rfl, e1]
    exact ⟨S, S2, i, rfl, rfl, Nat.le_refl _, hi, frc.rfl' S, frc.rfl' S2, H⟩
  | succ d ih =>
    intro i x fu fu2 bits S S2 u hd T T2 hi hx hf hf2 hu hp H
    obtain ⟨z, rfl⟩ : ∃ z, fu = z + 1 := ⟨fu - 1, by omega⟩
    obtain ⟨z2, rfl⟩ : ∃ z2, fu2 = z2 + 1 := ⟨fu2 - 1, by omega⟩
    obtain ⟨z', rfl⟩ : ∃ z', z = z' + 1 := ⟨z - 1, by omega⟩
    obtain ⟨z2', rfl⟩ : ∃ z2', z2 = z2' + 1 := ⟨z2 - 1, by omega⟩
    have n2 := TB.1
    have s1 := sk_ge (b := b) hi
    have s2 := sk_le (b := b) hi
    rw [f_X4_readItems_L25a, f_X12_readClause_L264d, if_neg (fun q => by have := (io_le (a := 200) (by omega) (by omega)).mp q; omega)]
    rcases (sxt_2 u hu).2 with e2 | ⟨e0, e59, ec, hc⟩
    · left
      rw [e2, if_pos (show (-1 : Int32) < 0 by decide), if_pos rfl]
      exact ⟨S, S2, sk b n i, rfl, rfl, s1, s2, frc.rfl' S, frc.rfl' S2, H⟩
    · generalize (sx_2 u).toNatClampNeg = c at ec hc
      rw [ec]
      have lt : sk b n i < n := pkn_lt hp (fun z => e0 ((io_eq (b := 0) (by omega) (by omega)).mp z))
      have nl : ¬ Int32.ofNat c < 0 := fun z => by rw [i_lt0, ti_nat (by omega)] at z; omega
      rw [if_neg nl, if_neg (io_ne1 (by omega)), rS_11, if_neg m1]
      unfold f_X12_has
      rcases and1 (bits >>> (Int32.ofNat c &&& 31)) with y0 | y0
      · rw [y0, if_neg (nn rfl), if_pos (show ¬ (0 : Int32) = 1 by decide), zbE, if_pos rfl]
        simp only [zlE, tS_up]
        rw [if_pos (show ia_in (Int32.ofNat 1) 3 = true by decide), show zc_1000004 (Int32.ofNat 1).toNatClampNeg = Int32.ofNat 6 by decide, ix_aa, if_pos (show ia_in (Int32.ofNat (6 + c)) 13 = true from io_in (by omega) (by omega)), if_pos (show ia_in (Int32.ofNat (6 + c)) 13 = true from io_in (by omega) (by omega)), io_cl (show 6 + c < 2147483648 by omega), least_1 c hc, zbE, most_1 c hc, zbE, ix_aa]
        obtain ⟨C1, C2⟩ := c_itm T TB (show sk b n i + 1 ≤ n by omega) (zc_1000005 (6 + c)) (zc_1000006 (6 + c))
        obtain ⟨R1, R2⟩ := r_itm_49 (w := w) T2 lt (zc_1000005 (6 + c)) (zc_1000006 (6 + c)) (show 5 * q + c < 30 by omega)
        have cell : ∀ X : zS, f_X10_cellOf (Int32.ofNat 1) (Int32.ofNat q) (Int32.ofNat c) X = some (Int32.ofNat (24 + 5 * q + c), X) := by
          intro X
          unfold f_X10_cellOf
          rw [if_pos (show ia_in (Int32.ofNat 1) 3 = true by decide), if_pos (show ia_in (Int32.ofNat 1) 3 = true by decide), show zc_1000003 (Int32.ofNat 1).toNatClampNeg = Int32.ofNat 24 by decide, show zc_1000002 (Int32.ofNat 1).toNatClampNeg = Int32.ofNat 5 by decide, cellE]
        cases hm : pItem b n (zc_1000005 (6 + c)) (zc_1000006 (6 + c)) (sk b n i + 1) with
        | inl y =>
          right
          obtain ⟨hy, v, i', hi', ho⟩ := C1 y hm
          obtain ⟨i2, ho2⟩ := R1 y hm
          rw [ho, zbE, cell, zbE, if_pos (io_in (show 24 + 5 * q + c < 62 by omega) (by omega)), io_cl (show 24 + 5 * q + c < 2147483648 by omega), tS_sk (by decide)]
          have F := frc.set (a := 6) (lo := 24 + 5 * q) (hi := 24 + 5 * q + 5) (k := 24 + 5 * q + c) S (by omega) (by omega) v
          rw [c_sign0 (F.C (by decide) (by decide) T) n2 hi' (by omega), zbE, show f_J0_indexOf_0f7a4_1000102 (((0 : Int32).toUInt32 % 65536).toInt32) (tS (sV S 6 (24 + 5 * q + c) v) (sk b n i') (Int32.ofNat y)) = some (-1, _) from c_idx_2 (v := 0) (by decide) _, zbE, f_X4_readItems_L25a, if_pos (show (-1 : Int32) < 0 by decide), ite_self]
          rw [ho2, zbE, rS_11, if_pos (io_ne1 (by omega)), f_X12_readClause_L264d, if_neg (io_ne1 (by omega)), rS_11, if_pos (io_ne1 (by omega))]
          exact ⟨y, _, S2, _, _, _, rfl, rfl, hy, Or.inl ⟨sk_le hi', rfl⟩, F, frc.rfl' S2⟩
        | inr r =>
          obtain ⟨i1, cc⟩ := r
          obtain ⟨v, hv, g1, g2, g3, g4, ho⟩ := C2 i1 cc hm
          obtain ⟨v', hv', ho2⟩ := R2 i1 cc hm
          have ev : v' = v := by rw [hv] at hv'; injection hv' with h _; exact h.symm
          subst ev
          obtain ⟨u1, h1, h2⟩ := pk_v' TB g2
          rw [ho, zbE, cell, zbE, if_pos (io_in (show 24 + 5 * q + c < 62 by omega) (by omega)), io_cl (show 24 + 5 * q + c < 2147483648 by omega), tS_sk (by decide)]
          have F := frc.set (a := 6) (lo := 24 + 5 * q) (hi := 24 + 5 * q + 5) (k := 24 + 5 * q + c) S (by omega) (by omega) v'
          have F2 := frc.set (a := 49) (lo := 5 * q) (hi := 5 * q + 5) (k := 5 * q + c) S2 (by omega) (by omega) v'
          have T' := F.C (by decide) (by decide) T
          have T2' := F2.R (by decide) (by decide) (by decide) T2
          rw [c_sign1 T' n2 g2, zbE, show f_J0_indexOf_0f7a4_1000102 (((pk b n i1).toUInt32 % 65536).toInt32) (tS (sV S 6 (24 + 5 * q + c) v') (sk b n i1) (-1)) = some (sx_2 u1, tS (sV S 6 (24 + 5 * q + c) v') (sk b n i1) (-1)) by rw [h2]; exact c_idx_2 h1 _, zbE]
          rw [ho2, zbE, rS_11, if_neg m1, r_look T2' g2, zbE, r_pl_2, zbE, px_lk_2 h1 h2, io_sc]
          rcases ih i1 (x + 1) (z' + 1) (z2' + 1) (bits ||| (1 <<< (Int32.ofNat c &&& 31))) _ _ u1 (by omega) T' T2' g2 (by omega) (by omega) (by omega) h1 h2 (H.set hc g3 g4) with ⟨S', S2', i', o1, o2, o3, o4, o5, o6, o7⟩ | ⟨y, S', S2', j1, f1, j2, o1, o2, o3, o4, o5, o6⟩
          · left
            exact ⟨S', S2', i', o1, o2, by omega, o4, F.tr o5, F2.tr o6, o7⟩
          · right
            exact ⟨y, S', S2', j1, f1, j2, o1, o2, o3, o4, F.tr o5, F2.tr o6⟩
      · right
        rw [y0, if_pos (show ¬ (1 : Int32) = 0 by decide), if_neg (nn rfl), zbE, if_neg (show ¬ (1 : Int32) = 0 by decide), r_fails1, zbE]
        refine ⟨sk b n i, S, S2, _, _, _, rfl, rfl, s2, Or.inr ⟨s2, rfl, sk_sk hi, lt, ?_⟩, frc.rfl' S, frc.rfl' S2⟩
        rw [pk_sk hi, hp]
        exact fun z => e59 ((io_eq (b := 59) (by omega) (by omega)).mp z)
theorem sxt_3 : ∀ v, v < 256 → px_3 (Int32.ofNat v) = sx_3 v ∧ (sx_3 v = -1 ∨ (v ≠ 0 ∧ v ≠ 59 ∧ sx_3 v = Int32.ofNat (sx_3 v).toNatClampNeg ∧ (sx_3 v).toNatClampNeg < 2)) := by decide +kernel
theorem px_lk_3 {u : Nat} (hu : u < 256) (h : pk b n i = Int32.ofNat u) : px_3 (lk b n i) = sx_3 u := by
  rw [← (sxt_3 u hu).1, ← h]
  unfold lk pk
  split
  · rfl
  · decide
def KI2 (q : Nat) (S S2 : zS) : Prop := ∀ c, c < 2 → S.1 6 (54 + 2 * q + c) = S2.1 51 (2 * q + c) ∧ ¬ S2.1 51 (2 * q + c) < zc_1000005 (11 + c) ∧ ¬ zc_1000006 (11 + c) < S2.1 51 (2 * q + c)
theorem least_2 : ∀ c, c < 2 → ∀ S, f_X12_leastOf 116 (Int32.ofNat c) S = some (zc_1000005 (11 + c), S) := by
  intro c hc S
  rcases (show c = 0 ∨ c = 1 by omega) with rfl | rfl <;> rfl
theorem most_2 : ∀ c, c < 2 → ∀ S, f_X12_mostOf 116 (Int32.ofNat c) S = some (zc_1000006 (11 + c), S) := by
  intro c hc S
  rcases (show c = 0 ∨ c = 1 by omega) with rfl | rfl <;> rfl
theorem usual_2 : ∀ c, c < 2 → ∀ S, f_X12_usual 116 (Int32.ofNat c) S = some (zc_1000007 (11 + c), S) := by
  intro c hc S
  rcases (show c = 0 ∨ c = 1 by omega) with rfl | rfl <;> rfl
theorem usb_2 : ∀ c, c < 2 → ¬ zc_1000007 (11 + c) < zc_1000005 (11 + c) ∧ ¬ zc_1000006 (11 + c) < zc_1000007 (11 + c) := by decide
theorem KI2.set {q c : Nat} {S S2 : zS} (H : KI2 q S S2) (hc : c < 2) {v : Int32} (h1 : ¬ v < zc_1000005 (11 + c)) (h2 : ¬ zc_1000006 (11 + c) < v) : KI2 q (sV S 6 (54 + 2 * q + c) v) (sV S2 51 (2 * q + c) v) := by
  intro c' hc'
  rw [sV_g, sV_g]
  by_cases e : c' = c
  · subst e
    rw [if_pos ⟨rfl, rfl⟩, if_pos ⟨rfl, rfl⟩]
    exact ⟨rfl, h1, h2⟩
  · rw [if_neg (fun z => by omega), if_neg (fun z => by omega)]
    exact H c' hc'
theorem k_items_2 (TB : TxB b n) {q : Nat} (hq : q < 4) : ∀ (d i x fu fu2 : Nat) (bits : Int32) (S S2 : zS) (u : Nat), n - i ≤ d → CTx S b n → RTx S2 b n → i ≤ n → x + x ≤ i → d + 1 < fu → d + 1 < fu2 → u < 256 → pk b n i = Int32.ofNat u → KI2 q S S2 →
    (∃ S' S2' i', f_X4_readItems_L25b (fun (q35 : Int32) (q36 : Int32) (q37 : Int32) (S34 : zS) => some ((), S34)) (Int32.ofNat 2) (Int32.ofNat q) fu bits (sx_3 u) (Int32.ofNat x) (tS S (sk b n i) (-1)) = some ((), tS S' i' (-1)) ∧ f_X12_readClause_L264 (fun (q79 : Int32) (q80 : Int32) (S78 : zS) => some ((), S78)) 116 1 (Int32.ofNat (2 * q)) fu2 bits (sx_3 u) (rS S2 (sk b n i) (-1) w) = some ((), rS S2' i' (-1) w) ∧ i ≤ i' ∧ i' ≤ n ∧ frc 6 (54 + 2 * q) (54 + 2 * q + 2) S S' ∧ frc 51 (2 * q) (2 * q + 2) S2 S2' ∧ KI2 q S' S2') ∨
    (∃ y S' S2' i1 f1 i2, f_X4_readItems_L25b (fun (q35 : Int32) (q36 : Int32) (q37 : Int32) (S34 : zS) => some ((), S34)) (Int32.ofNat 2) (Int32.ofNat q) fu bits (sx_3 u) (Int32.ofNat x) (tS S (sk b n i) (-1)) = some ((), tS S' i1 f1) ∧ f_X12_readClause_L264 (fun (q79 : Int32) (q80 : Int32) (S78 : zS) => some ((), S78)) 116 1 (Int32.ofNat (2 * q)) fu2 bits (sx_3 u) (rS S2 (sk b n i) (-1) w) = some ((), rS S2' i2 (Int32.ofNat y) w) ∧ y ≤ n ∧ stk b n y i1 f1 ∧ frc 6 (54 + 2 * q) (54 + 2 * q + 2) S S' ∧ frc 51 (2 * q) (2 * q + 2) S2 S2') := by
  intro d
  induction d with
  | zero =>
    intro i x fu fu2 bits S S2 u hd T T2 hi hx hf hf2 hu hp H
    obtain ⟨z, rfl⟩ : ∃ z, fu = z + 1 := ⟨fu - 1, by omega⟩
    obtain ⟨z2, rfl⟩ : ∃ z2, fu2 = z2 + 1 := ⟨fu2 - 1, by omega⟩
    have e1 : sk b n i = i := by rw [sk_un, if_neg (fun q => by omega)]
    have u0 : u = 0 := by
      have : pk b n i = 0 := (pk_0 TB hi).mpr (by rw [e1]; omega)
      exact (io_eq (b := 0) (by omega) (by omega)).mp (hp.symm.trans this)
    subst u0
    have e2 : sx_3 0 = -1 := by decide
    left
    rw [e2, f_X4_readItems_L25b, f_X12_readClause_L264, if_pos (show (-1 : Int32) < 0 by decide), ite_self, if_pos rfl, e1]
    exact ⟨S, S2, i, rfl, rfl, Nat.le_refl _, hi, frc.rfl' S, frc.rfl' S2, H⟩
  | succ d ih =>
    intro i x fu fu2 bits S S2 u hd T T2 hi hx hf hf2 hu hp H
    obtain ⟨z, rfl⟩ : ∃ z, fu = z + 1 := ⟨fu - 1, by omega⟩
    obtain ⟨z2, rfl⟩ : ∃ z2, fu2 = z2 + 1 := ⟨fu2 - 1, by omega⟩
    obtain ⟨z', rfl⟩ : ∃ z', z = z' + 1 := ⟨z - 1, by omega⟩
    obtain ⟨z2', rfl⟩ : ∃ z2', z2 = z2' + 1 := ⟨z2 - 1, by omega⟩
    have n2 := TB.1
    have s1 := sk_ge (b := b) hi
    have s2 := sk_le (b := b) hi
    rw [f_X4_readItems_L25b, f_X12_readClause_L264, if_neg (fun q => by have := (io_le (a := 200) (by omega) (by omega)).mp q; omega)]
    rcases (sxt_3 u hu).2 with e2 | ⟨e0, e59, ec, hc⟩
    · left
      rw [e2, if_pos (show (-1 : Int32) < 0 by decide), if_pos rfl]
      exact ⟨S, S2, sk b n i, rfl, rfl, s1, s2, frc.rfl' S, frc.rfl' S2, H⟩
    · generalize (sx_3 u).toNatClampNeg = c at ec hc
      rw [ec]
      have lt : sk b n i < n := pkn_lt hp (fun z => e0 ((io_eq (b := 0) (by omega) (by omega)).mp z))
      have nl : ¬ Int32.ofNat c < 0 := fun z => by rw [i_lt0, ti_nat (by omega)] at z; omega
      rw [if_neg nl, if_neg (io_ne1 (by omega)), rS_11, if_neg m1]
      unfold f_X12_has
      rcases and1 (bits >>> (Int32.ofNat c &&& 31)) with y0 | y0
      · rw [y0, if_neg (nn rfl), if_pos (show ¬ (0 : Int32) = 1 by decide), zbE, if_pos rfl]
        simp only [zlE, tS_up]
        rw [if_pos (show ia_in (Int32.ofNat 2) 3 = true by decide), show zc_1000004 (Int32.ofNat 2).toNatClampNeg = Int32.ofNat 11 by decide, ix_aa, if_pos (show ia_in (Int32.ofNat (11 + c)) 13 = true from io_in (by omega) (by omega)), if_pos (show ia_in (Int32.ofNat (11 + c)) 13 = true from io_in (by omega) (by omega)), io_cl (show 11 + c < 2147483648 by omega), least_2 c hc, zbE, most_2 c hc, zbE, ix_aa]
        obtain ⟨C1, C2⟩ := c_itm T TB (show sk b n i + 1 ≤ n by omega) (zc_1000005 (11 + c)) (zc_1000006 (11 + c))
        obtain ⟨R1, R2⟩ := r_itm_51 (w := w) T2 lt (zc_1000005 (11 + c)) (zc_1000006 (11 + c)) (show 2 * q + c < 8 by omega)
        have cell : ∀ X : zS, f_X10_cellOf (Int32.ofNat 2) (Int32.ofNat q) (Int32.ofNat c) X = some (Int32.ofNat (54 + 2 * q + c), X) := by
          intro X
          unfold f_X10_cellOf
          rw [if_pos (show ia_in (Int32.ofNat 2) 3 = true by decide), if_pos (show ia_in (Int32.ofNat 2) 3 = true by decide), show zc_1000003 (Int32.ofNat 2).toNatClampNeg = Int32.ofNat 54 by decide, show zc_1000002 (Int32.ofNat 2).toNatClampNeg = Int32.ofNat 2 by decide, cellE]
        cases hm : pItem b n (zc_1000005 (11 + c)) (zc_1000006 (11 + c)) (sk b n i + 1) with
        | inl y =>
          right
          obtain ⟨hy, v, i', hi', ho⟩ := C1 y hm
          obtain ⟨i2, ho2⟩ := R1 y hm
          rw [ho, zbE, cell, zbE, if_pos (io_in (show 54 + 2 * q + c < 62 by omega) (by omega)), io_cl (show 54 + 2 * q + c < 2147483648 by omega), tS_sk (by decide)]
          have F := frc.set (a := 6) (lo := 54 + 2 * q) (hi := 54 + 2 * q + 2) (k := 54 + 2 * q + c) S (by omega) (by omega) v
          rw [c_sign0 (F.C (by decide) (by decide) T) n2 hi' (by omega), zbE, show f_J0_indexOf_0f7a4_1000103 (((0 : Int32).toUInt32 % 65536).toInt32) (tS (sV S 6 (54 + 2 * q + c) v) (sk b n i') (Int32.ofNat y)) = some (-1, _) from c_idx_3 (v := 0) (by decide) _, zbE, f_X4_readItems_L25b, if_pos (show (-1 : Int32) < 0 by decide), ite_self]
          rw [ho2, zbE, rS_11, if_pos (io_ne1 (by omega)), f_X12_readClause_L264, if_neg (io_ne1 (by omega)), rS_11, if_pos (io_ne1 (by omega))]
          exact ⟨y, _, S2, _, _, _, rfl, rfl, hy, Or.inl ⟨sk_le hi', rfl⟩, F, frc.rfl' S2⟩
        | inr r =>
          obtain ⟨i1, cc⟩ := r
          obtain ⟨v, hv, g1, g2, g3, g4, ho⟩ := C2 i1 cc hm
          obtain ⟨v', hv', ho2⟩ := R2 i1 cc hm
          have ev : v' = v := by rw [hv] at hv'; injection hv' with h _; exact h.symm
          subst ev
          obtain ⟨u1, h1, h2⟩ := pk_v' TB g2
          rw [ho, zbE, cell, zbE, if_pos (io_in (show 54 + 2 * q + c < 62 by omega) (by omega)), io_cl (show 54 + 2 * q + c < 2147483648 by omega), tS_sk (by decide)]
          have F := frc.set (a := 6) (lo := 54 + 2 * q) (hi := 54 + 2 * q + 2) (k := 54 + 2 * q + c) S (by omega) (by omega) v'
          have F2 := frc.set (a := 51) (lo := 2 * q) (hi := 2 * q + 2) (k := 2 * q + c) S2 (by omega) (by omega) v'
          have T' := F.C (by decide) (by decide) T
          have T2' := F2.R (by decide) (by decide) (by decide) T2
          rw [c_sign1 T' n2 g2, zbE, show f_J0_indexOf_0f7a4_1000103 (((pk b n i1).toUInt32 % 65536).toInt32) (tS (sV S 6 (54 + 2 * q + c) v') (sk b n i1) (-1)) = some (sx_3 u1, tS (sV S 6 (54 + 2 * q + c) v') (sk b n i1) (-1)) by rw [h2]; exact c_idx_3 h1 _, zbE]
          rw [ho2, zbE, rS_11, if_neg m1, r_look T2' g2, zbE, r_pl_3, zbE, px_lk_3 h1 h2, io_sc]
          rcases ih i1 (x + 1) (z' + 1) (z2' + 1) (bits ||| (1 <<< (Int32.ofNat c &&& 31))) _ _ u1 (by omega) T' T2' g2 (by omega) (by omega) (by omega) h1 h2 (H.set hc g3 g4) with ⟨S', S2', i', o1, o2, o3, o4, o5, o6, o7⟩ | ⟨y, S', S2', j1, f1, j2, o1, o2, o3, o4, o5, o6⟩
          · left
            exact ⟨S', S2', i', o1, o2, by omega, o4, F.tr o5, F2.tr o6, o7⟩
          · right
            exact ⟨y, S', S2', j1, f1, j2, o1, o2, o3, o4, F.tr o5, F2.tr o6⟩
      · right
        rw [y0, if_pos (show ¬ (1 : Int32) = 0 by decide), if_neg (nn rfl), zbE, if_neg (show ¬ (1 : Int32) = 0 by decide), r_fails1, zbE]
        refine ⟨sk b n i, S, S2, _, _, _, rfl, rfl, s2, Or.inr ⟨s2, rfl, sk_sk hi, lt, ?_⟩, frc.rfl' S, frc.rfl' S2⟩
        rw [pk_sk hi, hp]
        exact fun z => e59 ((io_eq (b := 59) (by omega) (by omega)).mp z)
end PH
