/-! What a hand grips, by what a law is worth (W: what it makes of p s w i c a). -/
section MF
abbrev zLw : Type := Int32 → Int32 → Int32 → Int32 → Int32 → Int32 → Int32
def clampC (v : Int32) : Int32 := if 0 ≤ v then (if v ≤ 999 then v else 999) else 0
def clampR (v : Int32) : Int32 := if 0 < (if v < 999 then v else 999) then (if v < 999 then v else 999) else 0
theorem clamp_eq (v : Int32) : clampR v = clampC v := by
  have e0 := ti_0
  have e9 : (999 : Int32).toInt = 999 := by decide
  unfold clampR clampC
  apply ti_inj
  by_cases h1 : v < 999
  · rw [if_pos h1]
    by_cases h2 : 0 < v
    · rw [if_pos h2, if_pos (Int32.le_of_lt h2), if_pos (Int32.le_of_lt h1)]
    · rw [if_neg h2]
      by_cases h3 : 0 ≤ v
      · rw [if_pos h3, if_pos (Int32.le_of_lt h1)]
        rw [Int32.lt_iff_toInt_lt] at h2
        rw [Int32.le_iff_toInt_le] at h3
        omega
      · rw [if_neg h3]
  · rw [if_neg h1, if_pos (by decide)]
    rw [Int32.lt_iff_toInt_lt] at h1
    rw [if_pos (by rw [Int32.le_iff_toInt_le]; omega)]
    by_cases h3 : v ≤ 999
    · rw [if_pos h3]
      rw [Int32.le_iff_toInt_le] at h3
      omega
    · rw [if_neg h3]
theorem clamp_bd (v : Int32) : bd (clampC v) 0 999 := by
  have e0 := ti_0
  have e9 : (999 : Int32).toInt = 999 := by decide
  unfold clampC bd
  split
  · next h =>
    rw [Int32.le_iff_toInt_le] at h
    split
    · next h2 => rw [Int32.le_iff_toInt_le] at h2; omega
    · omega
  · omega
def plainW : zLw := fun p s w i c a => (((p + a) - (4 * w)) - (3 * (if i ≤ s then 0 else i - s))) - c
/-- only what is thrown away has changed -/
def sameC (A A' : zS) : Prop := A'.2 = A.2 ∧ ∀ b, b ≠ 15 → b ≠ 16 → A'.1 b = A.1 b
def sameR (B B' : zS) : Prop := (∀ b, b ≠ 41 → b ≠ 45 → B'.1 b = B.1 b) ∧ (∀ k, (k < 8 ∨ 14 < k) → k ≠ 17 → B'.1 41 k = B.1 41 k) ∧ B'.2.2 = B.2.2 ∧ ∀ b k, ¬ (b = 41 ∧ k = 5) → B'.2.1 b k = B.2.1 b k
theorem sameC.rfl' (A : zS) : sameC A A := ⟨rfl, fun _ _ _ => rfl⟩
theorem sameC.tr {A B C : zS} (h1 : sameC A B) (h2 : sameC B C) : sameC A C := ⟨h2.1.trans h1.1, fun b h3 h4 => (h2.2 b h3 h4).trans (h1.2 b h3 h4)⟩
theorem sameR.rfl' (A : zS) : sameR A A := ⟨fun _ _ _ => rfl, fun _ _ _ => rfl, rfl, fun _ _ _ => rfl⟩
theorem sameR.tr {A B C : zS} (h1 : sameR A B) (h2 : sameR B C) : sameR A C := ⟨fun b h3 h4 => (h2.1 b h3 h4).trans (h1.1 b h3 h4), fun b h3 h4 => (h2.2.1 b h3 h4).trans (h1.2.1 b h3 h4), h2.2.2.1.trans h1.2.2.1, fun b k h => (h2.2.2.2 b k h).trans (h1.2.2.2 b k h)⟩
def worthC (A : zS) : Option (Int32 × zS) := zkr (A.2.1 14 2) (f_X2_plainWorth A) (fun a => if 64 ≤ a ∧ a < A.2.2.2 then f_X2_lawWorth a A else none)
/-- the law that holds is worth W: the class -/
def LawC (A : zS) (W : zLw) : Prop := ∀ A', A'.2.1 14 2 = A.2.1 14 2 → A'.2.2 = A.2.2 → (∀ b, 64 ≤ b → A'.1 b = A.1 b) → zk (worthC A') (fun v A'' => v = W (A'.1 15 0) (A'.1 15 1) (A'.1 15 2) (A'.1 15 3) (A'.1 15 4) (A'.1 15 5) ∧ A''.2 = A'.2 ∧ ∀ b, b ≠ 16 → A''.1 b = A'.1 b)
/-- within bounds -/
def LBd (p s w i c a : Int32) : Prop := bd p 0 99 ∧ bd s 0 99 ∧ bd w 0 99 ∧ bd i 0 99 ∧ bd c 0 99 ∧ bd a 0 99
/-- the reference, within bounds -/
def LawR (B : zS) (W : zLw) : Prop := ∀ B', B'.1 41 35 = B.1 41 35 → B'.1 43 = B.1 43 → B'.1 44 = B.1 44 → ∀ p s w i c a, LBd p s w i c a → zk (f_X12_gripBy p s w i c a B') (fun v B'' => v = clampR (W p s w i c a) ∧ sameR B' B'')
theorem LawC.of {A A' : zS} {W : zLw} (H : LawC A W) (h1 : A'.2.1 14 2 = A.2.1 14 2) (h2 : A'.2.2 = A.2.2) (h3 : ∀ b, 64 ≤ b → A'.1 b = A.1 b) : LawC A' W :=
  fun C e1 e2 e3 => H C (e1.trans h1) (e2.trans h2) (fun b hb => (e3 b hb).trans (h3 b hb))
theorem LawR.of {B B' : zS} {W : zLw} (H : LawR B W) (h1 : B'.1 41 35 = B.1 41 35) (h2 : B'.1 43 = B.1 43) (h3 : B'.1 44 = B.1 44) : LawR B' W :=
  fun C e1 e2 e3 => H C (e1.trans h1) (e2.trans h2) (e3.trans h3)
def toolV (t : Option Nat) : Int32 := match t with
  | none => -1
  | some k => Int32.ofNat k
def addsV (tT : Nat → Int32) (t : Option Nat) : Int32 := match t with
  | none => 0
  | some k => tT (2 * k)
/-- GRIP of a hand with a tool on a jar, in a row -/
def gripM (W : zLw) (jT hT tT : Nat → Int32) (r : Nat → Int32) (h : Nat) (t : Option Nat) (j : Nat) : Int32 :=
  clampC (W (r (28 + 2 * h)) (hT (5 * h + 1)) (r (28 + 2 * h + 1)) (jT (6 * j + 4)) (r (7 * j + 2)) (addsV tT t))
theorem gripM_bd {W : zLw} {jT hT tT r : Nat → Int32} {h j : Nat} {t : Option Nat} : bd (gripM W jT hT tT r h t j) 0 999 := clamp_bd _
theorem c_gripOn {A : zS} {W : zLw} (H : LawC A W) {o h j : Nat} {t : Option Nat} (ho : 17 ≤ o) (ho2 : o < 40) (hh : h < 6) (hj : j < 4) (ht : ∀ k, t = some k → k < 4) :
    ∃ A', f_X7_gripOn o (Int32.ofNat h) (toolV t) (Int32.ofNat j) A = some (gripM W (A.1 13) (fun k => A.1 13 (24 + k)) (fun k => A.1 13 (54 + k)) (A.1 (o + 1)) h t j, A') ∧ sameC A A' := by
  let R : Nat → Int32 := ru (ru (ru (ru (ru (ru (A.1 15) 0 (A.1 (o + 1) (28 + 2 * h))) 1 (A.1 13 (24 + (5 * h + 1)))) 2 (A.1 (o + 1) (28 + 2 * h + 1))) 3 (A.1 13 (6 * j + 4))) 4 (A.1 (o + 1) (7 * j + 2))) 5 (addsV (fun k => A.1 13 (54 + k)) t)
  have key : f_X7_gripOn o (Int32.ofNat h) (toolV t) (Int32.ofNat j) A = zb (worthC (sR A 15 R)) (fun v S => some (clampC v, S)) := by
    have tail : ∀ U : zS, zkr (U.2.1 14 2) (
        zb (f_X2_plainWorth U) fun r28 S27 =>
        if 0 ≤ r28 then
        if r28 ≤ 999 then
        some (r28, S27)
        else
        some (999, S27)
        else
        some (0, S27)) (fun a26 =>
        if 64 ≤ a26 ∧ a26 < U.2.2.2 then
        zb (f_X2_lawWorth a26 U) fun r33 S32 =>
        if 0 ≤ r33 then
        if r33 ≤ 999 then
        some (r33, S32)
        else
        some (999, S32)
        else
        some (0, S32)
        else none) = zb (worthC U) (fun v S => some (clampC v, S)) := by
      intro U
      have cl : ∀ (v : Int32) (S : zS), (if 0 ≤ v then if v ≤ 999 then some (v, S) else some (999, S) else some (0, S)) = some (clampC v, S) := by
        intro v S
        unfold clampC
        split
        · split <;> rfl
        · rfl
      unfold worthC
      cases U.2.1 14 2 with
      | null =>
        show zb (f_X2_plainWorth U) _ = zb (f_X2_plainWorth U) _
        congr 1
        funext v S
        exact cl v S
      | ref a =>
        show (if _ then _ else _) = zb (if _ then _ else _) _
        split
        · congr 1
          funext v S
          exact cl v S
        · rfl
      | _ => rfl
    unfold f_X7_gripOn
    cases t with
    | none =>
      simp (disch := omega) only [toolV, f_X7_lid, f_X7_setLid, f_X7_lessenLid, f_X7_handCell, f_X7_setHand, f_X7_jarCell, f_X7_hold, f_X7_onTable, f_X7_minute, zlE, zbE, sV_eq, sR_at, sR_sR, sR_ne, ru_at, ru_ne, um, m0, io_in, io_cl, eq_self, if_true, ite_true, ix_c7_0, ix_c7_1, ix_c7_2, ix_c7_3, ix_c7_4, ix_c7_5, ix_c7_6, ix_c2_0, ix_c2_1, c_item1_1, c_item0_4]
      rw [if_neg (fun q => q trivial)]
      refine (tail _).trans ?_
      simp (disch := omega) only [addsV, R]
    | some k =>
      have hk := ht k rfl
      simp (disch := omega) only [toolV, f_X7_lid, f_X7_setLid, f_X7_lessenLid, f_X7_handCell, f_X7_setHand, f_X7_jarCell, f_X7_hold, f_X7_onTable, f_X7_minute, zlE, zbE, sV_eq, sR_at, sR_sR, sR_ne, ru_at, ru_ne, um, m0, io_in, io_cl, eq_self, if_true, ite_true, ix_c7_0, ix_c7_1, ix_c7_2, ix_c7_3, ix_c7_4, ix_c7_5, ix_c7_6, ix_c2_0, ix_c2_1, c_item1_1, c_item0_4]
      rw [if_pos (io_ne1 (by omega)), c_item2_0 hk, zbE]
      refine (tail _).trans ?_
      simp (disch := omega) only [addsV, R, zlE, zbE, sV_eq, sR_at, sR_sR, sR_ne, ru_at, ru_ne, um, m0, io_in, io_cl, eq_self, if_true, ite_true]
  obtain ⟨v, A', e1, e2, e3, e4⟩ := H (sR A 15 R) rfl rfl (fun b hb => sR_ne _ _ (by omega))
  rw [key, e1]
  refine ⟨A', ?_, e3, fun b h1 h2 => (e4 b h2).trans (sR_ne _ _ h1)⟩
  rw [zbE, e2, sR_at]
  unfold gripM
  simp (disch := decide) only [R, ru_at, ru_ne]
def gBd (jT hT tT r : Nat → Int32) (h : Nat) (t : Option Nat) (j : Nat) : Prop := LBd (r (28 + 2 * h)) (hT (5 * h + 1)) (r (28 + 2 * h + 1)) (jT (6 * j + 4)) (r (7 * j + 2)) (addsV tT t)
theorem r_gripOf {B : zS} {W : zLw} (H : LawR B W) {w h j : Nat} {t : Option Nat} (hh : h < 6) (hj : j < 4) (ht : ∀ k, t = some k → k < 4) (hL : gBd (B.1 46) (B.1 48) (B.1 50) (B.1 w) h t j) :
    ∃ B', f_X12_gripOf w (Int32.ofNat h) (toolV t) (Int32.ofNat j) B = some (gripM W (B.1 46) (B.1 48) (B.1 50) (B.1 w) h t j, B') ∧ sameR B B' := by
  obtain ⟨v, B', e1, e2, e3⟩ := H B rfl rfl rfl (B.1 w (28 + 2 * h)) (B.1 48 (5 * h + 1)) (B.1 w (28 + 2 * h + 1)) (B.1 46 (6 * j + 4)) (B.1 w (7 * j + 2)) (addsV (B.1 50) t) hL
  refine ⟨B', ?_, e3⟩
  unfold f_X12_gripOf gripM
  cases t with
  | none =>
    simp (disch := omega) only [toolV, zlE, zbE, sV_eq, sR_at, sR_sR, sR_ne, ru_at, ru_ne, um, m0, io_in, io_cl, eq_self, if_true, ite_true, ix_m7, ix_m6, ix_m5, ix_m2, ix_m4, ix_p1, ix_p2, ix_p3, ix_p4, ix_p5, ix_p6, ix_k28, ix_k40, ix_aa]
    rw [if_neg (fun q => q trivial)]
    unfold addsV at e1 e2
    dsimp only at e1 e2
    rw [e1, zbE, e2, clamp_eq]
    rfl
  | some k =>
    have hk := ht k rfl
    simp (disch := omega) only [toolV, zlE, zbE, sV_eq, sR_at, sR_sR, sR_ne, ru_at, ru_ne, um, m0, io_in, io_cl, eq_self, if_true, ite_true, ix_m7, ix_m6, ix_m5, ix_m2, ix_m4, ix_p1, ix_p2, ix_p3, ix_p4, ix_p5, ix_p6, ix_k28, ix_k40, ix_aa]
    rw [if_pos (io_ne1 (by omega))]
    unfold addsV at e1 e2
    dsimp only at e1 e2
    rw [e1, zbE, e2, clamp_eq]
    rfl
end MF
