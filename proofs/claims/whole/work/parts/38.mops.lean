/-! Acts by their numbers, on both sides. -/
section MU
variable {d M nj nh nt : Nat} {A B : zS}
def toolO (t : Nat) : Option Nat := if t = 9 then none else some t
theorem toolO_v {t : Nat} (h : t < 10) : toolV (toolO t) = if t = 9 then -1 else Int32.ofNat t := by
  unfold toolO
  split <;> rfl
def actM (lo : Nat → Nat → Nat) (W : zLw) (jT hT tT : Nat → Int32) (nj nh tb c : Nat) (r : Nat → Int32) : Nat → Int32 :=
  if c = 0 then tapM tb r else if c = 1 then knockM tb r else if c = 2 then holeM tb r else if c = 3 then warmM jT tb 10 r else if c = 4 then restM hT nj nh 10 r
  else if c < 100 then dryM (c - 10) r else tryM lo hT tb ((c - 100) / 10) (gripM W jT hT tT r ((c - 100) / 10) (toolO ((c - 100) % 10)) tb) r
/-- an act's number whose hand and tool are there -/
def canN (nh nt c : Nat) : Prop := c < 5 ∨ (10 ≤ c ∧ c < 10 + nh) ∨ (100 ≤ c ∧ c < 200 ∧ (c - 100) / 10 < nh ∧ ((c - 100) % 10 = 9 ∨ (c - 100) % 10 < nt))
def sameCo (o : Nat) (A A' : zS) : Prop := A'.2 = A.2 ∧ ∀ b, b ≠ o + 1 → b ≠ 15 → b ≠ 16 → A'.1 b = A.1 b
def sameRw (w : Nat) (B B' : zS) : Prop := (∀ b, b ≠ 41 → b ≠ 45 → b ≠ w → B'.1 b = B.1 b) ∧ (∀ k, (k < 8 ∨ 14 < k) → k ≠ 17 → B'.1 41 k = B.1 41 k) ∧ B'.2.2 = B.2.2 ∧ ∀ b k, ¬ (b = 41 ∧ k = 5) → B'.2.1 b k = B.2.1 b k
theorem sameCo.tr {o : Nat} {A B C : zS} (h1 : sameCo o A B) (h2 : sameCo o B C) : sameCo o A C := ⟨h2.1.trans h1.1, fun b h3 h4 h5 => (h2.2 b h3 h4 h5).trans (h1.2 b h3 h4 h5)⟩
theorem sameRw.tr {w : Nat} {A B C : zS} (h1 : sameRw w A B) (h2 : sameRw w B C) : sameRw w A C := ⟨fun b h3 h4 h5 => (h2.1 b h3 h4 h5).trans (h1.1 b h3 h4 h5), fun b h3 h4 => (h2.2.1 b h3 h4).trans (h1.2.1 b h3 h4), h2.2.2.1.trans h1.2.2.1, fun b k h => (h2.2.2.2 b k h).trans (h1.2.2.2 b k h)⟩
theorem sameCo.sR {o : Nat} {A A' : zS} (h : sameC A A') (r : Nat → Int32) : sameCo o A (sR A' (o + 1) r) := ⟨h.1, fun b h1 h2 h3 => by rw [sR_ne _ _ h1]; exact h.2 b h2 h3⟩
theorem sameRw.sR {w : Nat} {B B' : zS} (h : sameR B B') (hw : w ≠ 41) (r : Nat → Int32) : sameRw w B (sR B' w r) := ⟨fun b h1 h2 h3 => by rw [sR_ne _ _ h3]; exact h.1 b h1 h2, fun k h1 h2 => by rw [sR_ne _ _ (Ne.symm hw)]; exact h.2.1 k h1 h2, h.2.2.1, h.2.2.2⟩
theorem sameCo.of {o : Nat} {A A' : zS} (h : sameC A A') : sameCo o A A' := ⟨h.1, fun b _ h2 h3 => h.2 b h2 h3⟩
theorem sameRw.of {w : Nat} {B B' : zS} (h : sameR B B') : sameRw w B B' := ⟨fun b h1 h2 _ => h.1 b h1 h2, h.2.1, h.2.2.1, h.2.2.2⟩
theorem LawC.co {o : Nat} {W : zLw} {A A' : zS} (H : LawC A W) (h : sameCo o A A') (ho : o < 63) : LawC A' W := H.of (by rw [h.1]) (by rw [h.1]) (fun b hb => h.2 b (by omega) (by omega) (by omega))
theorem LawR.rw' {w : Nat} {W : zLw} {B B' : zS} (H : LawR B W) (h : sameRw w B B') (hw : 44 < w) : LawR B' W := H.of (h.2.1 35 (by omega) (by decide)) (h.1 43 (by decide) (by decide) (by omega)) (h.1 44 (by decide) (by decide) (by omega))
theorem io_s100 {c : Nat} (h : 100 ≤ c) : Int32.ofNat c - 100 = Int32.ofNat (c - 100) := (Int32.ofNat_sub c 100 h).symm
theorem io_d10 {c : Nat} (h : c < 1000000) : Int32.ofNat c / 10 = Int32.ofNat (c / 10) := (Int32.ofNat_div (a := c) (b := 10) (by omega) (by omega)).symm
theorem io_r10 {c : Nat} (h : c < 1000000) : Int32.ofNat c - Int32.ofNat c / 10 * 10 = Int32.ofNat (c % 10) := io_rem (m := 10) (n := 10) h rfl (by omega)
theorem c_act {W : zLw} (HL : LawC A W) {o tb c : Nat} (ho : 17 ≤ o) (ho2 : o < 40) (hT : A.1 (o + 1) 64 = Int32.ofNat tb) (hb : tb < 4) (t1 : A.1 12 0 = Int32.ofNat nj) (t2 : A.1 12 1 = Int32.ofNat nh) (n4 : nj ≤ 4) (n6 : nh ≤ 6) (n44 : nt ≤ 4) (hc : canN nh nt c) :
    ∃ A', f_X7_act o (Int32.ofNat c) A = some ((), A') ∧ sameCo o A A' ∧ A'.1 (o + 1) = actM loC W (A.1 13) (fun k => A.1 13 (24 + k)) (fun k => A.1 13 (54 + k)) nj nh tb c (A.1 (o + 1)) := by
  have fin : ∀ r, f_X7_act o (Int32.ofNat c) A = some ((), sR A (o + 1) r) → actM loC W (A.1 13) (fun k => A.1 13 (24 + k)) (fun k => A.1 13 (54 + k)) nj nh tb c (A.1 (o + 1)) = r → ∃ A', f_X7_act o (Int32.ofNat c) A = some ((), A') ∧ sameCo o A A' ∧ A'.1 (o + 1) = actM loC W (A.1 13) (fun k => A.1 13 (24 + k)) (fun k => A.1 13 (54 + k)) nj nh tb c (A.1 (o + 1)) := fun r h1 h2 => ⟨_, h1, sameCo.sR (sameC.rfl' A) r, by rw [sR_at, h2]⟩
  rcases hc with h | h | h
  · rcases (show c = 0 ∨ c = 1 ∨ c = 2 ∨ c = 3 ∨ c = 4 by omega) with rfl | rfl | rfl | rfl | rfl
    · refine fin (tapM tb (A.1 (o + 1))) ?_ rfl
      unfold f_X7_act
      rw [if_pos (by decide), if_pos (by decide), if_pos (by decide), if_pos (by decide), show f_X7_workOnLid o (Int32.ofNat 0) A = _ from c_tap ho hT hb, zbE]
    · refine fin (knockM tb (A.1 (o + 1))) ?_ rfl
      unfold f_X7_act
      rw [if_pos (by decide), if_pos (by decide), if_pos (by decide), if_pos (by decide), show f_X7_workOnLid o (Int32.ofNat 1) A = _ from c_knock ho hT hb, zbE]
    · refine fin (holeM tb (A.1 (o + 1))) ?_ rfl
      unfold f_X7_act
      rw [if_pos (by decide), if_pos (by decide), if_pos (by decide), if_pos (by decide), show f_X7_workOnLid o (Int32.ofNat 2) A = _ from c_hole ho hT hb, zbE]
    · refine fin (warmM (A.1 13) tb 10 (A.1 (o + 1))) ?_ rfl
      unfold f_X7_act
      rw [if_pos (by decide), if_pos (by decide), if_neg (by decide), c_warm ho hT hb, zbE]
    · refine fin (restM (fun k => A.1 13 (24 + k)) nj nh 10 (A.1 (o + 1))) ?_ rfl
      unfold f_X7_act
      rw [if_pos (by decide), if_pos (by decide), if_pos (by decide), if_neg (by decide), c_rest ho t1 n4 t2 n6, zbE]
  · have hd := c_actDry (h := c - 10) (o := o) ho (by omega) A
    rw [show 10 + (c - 10) = c by omega] at hd
    refine fin _ hd ?_
    unfold actM
    rw [if_neg (by omega), if_neg (by omega), if_neg (by omega), if_neg (by omega), if_neg (by omega), if_pos (by omega)]
  · obtain ⟨h1, h2, h3, h4⟩ := h
    have q1 : ¬ Int32.ofNat c < 100 := fun q => by have := (io_lt (a := c) (b := 100) (by omega) (by omega)).mp q; omega
    have em : actM loC W (A.1 13) (fun k => A.1 13 (24 + k)) (fun k => A.1 13 (54 + k)) nj nh tb c (A.1 (o + 1)) = tryM loC (fun k => A.1 13 (24 + k)) tb ((c - 100) / 10) (gripM W (A.1 13) (fun k => A.1 13 (24 + k)) (fun k => A.1 13 (54 + k)) (A.1 (o + 1)) ((c - 100) / 10) (toolO ((c - 100) % 10)) tb) (A.1 (o + 1)) := by
      unfold actM
      rw [if_neg (by omega), if_neg (by omega), if_neg (by omega), if_neg (by omega), if_neg (by omega), if_neg (by omega)]
    have ht : ∀ k, toolO ((c - 100) % 10) = some k → k < 4 := fun k hk => by
      unfold toolO at hk
      split at hk
      · cases hk
      · cases hk; omega
    obtain ⟨A2, ga, sa⟩ := c_gripOn HL (o := o) (h := (c - 100) / 10) (j := tb) (t := toolO ((c - 100) % 10)) ho ho2 (by omega) hb ht
    have hT2 : A2.1 (o + 1) 64 = Int32.ofNat tb := by rw [sa.2 _ (by omega) (by omega)]; exact hT
    have e2 := c_tryLid (S := A2) ho hT2 hb (h := (c - 100) / 10) (by omega) (gripM W (A.1 13) (fun k => A.1 13 (24 + k)) (fun k => A.1 13 (54 + k)) (A.1 (o + 1)) ((c - 100) / 10) (toolO ((c - 100) % 10)) tb)
    rw [sa.2 13 (by decide) (by decide), sa.2 (o + 1) (by omega) (by omega)] at e2
    rw [em]
    refine ⟨_, ?_, sameCo.sR sa _, sR_at _ _ _⟩
    unfold f_X7_act
    rw [if_neg q1, io_s100 h1, io_r10 (by omega), io_d10 (by omega)]
    simp only [zlE]
    rw [c_onTable hT, zbE, zbE]
    rw [toolO_v (by omega)] at ga
    by_cases h9 : (c - 100) % 10 = 9
    · rw [if_pos h9] at ga
      rw [if_neg (fun q => q (by rw [h9]; rfl)), ga, zbE, e2, zbE]
    · rw [if_neg h9] at ga
      have q9 : ¬ Int32.ofNat ((c - 100) % 10) = 9 := fun q => h9 ((io_eq (b := 9) (by omega) (by omega)).mp q)
      rw [if_pos q9, ga, zbE, e2, zbE]
theorem r_does {W : zLw} {M' : Nat} (HL : LawR B W) {w tb c : Nat} (hw : 54 ≤ w) (hR : RowOk (B.1 46) nj M' (B.1 w)) (hT : B.1 w 64 = Int32.ofNat tb) (hb : tb < 4) (t1 : B.1 41 24 = Int32.ofNat nj) (t2 : B.1 41 25 = Int32.ofNat nh) (n4 : nj ≤ 4) (n6 : nh ≤ 6) (n44 : nt ≤ 4) (TB : ToldB nj nh nt (B.1 46) (B.1 48) (B.1 50)) (hc : canN nh nt c) :
    ∃ B', f_X12_does w (Int32.ofNat c) B = some ((), B') ∧ sameRw w B B' ∧ B'.1 w = actM loR W (B.1 46) (B.1 48) (B.1 50) nj nh tb c (B.1 w) := by
  have fin : ∀ r, f_X12_does w (Int32.ofNat c) B = some ((), sR B w r) → actM loR W (B.1 46) (B.1 48) (B.1 50) nj nh tb c (B.1 w) = r → ∃ B', f_X12_does w (Int32.ofNat c) B = some ((), B') ∧ sameRw w B B' ∧ B'.1 w = actM loR W (B.1 46) (B.1 48) (B.1 50) nj nh tb c (B.1 w) := fun r h1 h2 => ⟨_, h1, sameRw.sR (sameR.rfl' B) (by omega) r, by rw [sR_at, h2]⟩
  rcases hc with h | h | h
  · rcases (show c = 0 ∨ c = 1 ∨ c = 2 ∨ c = 3 ∨ c = 4 by omega) with rfl | rfl | rfl | rfl | rfl
    · refine fin (tapM tb (B.1 w)) ?_ rfl
      unfold f_X12_does
      rw [if_neg (by decide), show f_X12_works w (Int32.ofNat 0) B = _ from r_tap hw hT hb, zbE]
    · refine fin (knockM tb (B.1 w)) ?_ rfl
      unfold f_X12_does
      rw [if_neg (by decide), show f_X12_works w (Int32.ofNat 1) B = _ from r_knock hw hT hb, zbE]
    · refine fin (holeM tb (B.1 w)) ?_ rfl
      unfold f_X12_does
      rw [if_neg (by decide), show f_X12_works w (Int32.ofNat 2) B = _ from r_hole hw hT hb, zbE]
    · refine fin (warmM (B.1 46) tb 10 (B.1 w)) ?_ rfl
      unfold f_X12_does
      rw [if_pos (by decide), if_neg (by decide), r_heats hw hT hb, zbE]
    · refine fin (restM (B.1 48) nj nh 10 (B.1 w)) ?_ rfl
      unfold f_X12_does
      rw [if_pos (by decide), if_pos (by decide), if_neg (by decide), r_waits hw t1 n4 t2 n6, zbE]
  · refine fin (dryM (c - 10) (B.1 w)) ?_ ?_
    · have q0 : (3 : Int32) ≤ Int32.ofNat c := (io_le (a := 3) (by omega) (by omega)).mpr (by omega)
      have q3 : ¬ Int32.ofNat c = 3 := fun q => by have := (io_eq (b := 3) (by omega) (by omega)).mp q; omega
      have q4 : ¬ Int32.ofNat c = 4 := fun q => by have := (io_eq (b := 4) (by omega) (by omega)).mp q; omega
      have q5 : ¬ (100 : Int32) ≤ Int32.ofNat c := fun q => by have := (io_le (a := 100) (by omega) (by omega)).mp q; omega
      have e : Int32.ofNat c - 10 = Int32.ofNat (c - 10) := (Int32.ofNat_sub c 10 (by omega)).symm
      unfold f_X12_does
      rw [if_pos q0, if_pos q3, if_pos q4, if_neg q5, e, r_dries hw (by omega), zbE]
    · unfold actM
      rw [if_neg (by omega), if_neg (by omega), if_neg (by omega), if_neg (by omega), if_neg (by omega), if_pos (by omega)]
  · obtain ⟨h1, h2, h3, h4⟩ := h
    have q0 : (3 : Int32) ≤ Int32.ofNat c := (io_le (a := 3) (by omega) (by omega)).mpr (by omega)
    have q3 : ¬ Int32.ofNat c = 3 := fun q => by have := (io_eq (b := 3) (by omega) (by omega)).mp q; omega
    have q4 : ¬ Int32.ofNat c = 4 := fun q => by have := (io_eq (b := 4) (by omega) (by omega)).mp q; omega
    have q5 : (100 : Int32) ≤ Int32.ofNat c := (io_le (a := 100) (by omega) (by omega)).mpr (by omega)
    have em : actM loR W (B.1 46) (B.1 48) (B.1 50) nj nh tb c (B.1 w) = tryM loR (B.1 48) tb ((c - 100) / 10) (gripM W (B.1 46) (B.1 48) (B.1 50) (B.1 w) ((c - 100) / 10) (toolO ((c - 100) % 10)) tb) (B.1 w) := by
      unfold actM
      rw [if_neg (by omega), if_neg (by omega), if_neg (by omega), if_neg (by omega), if_neg (by omega), if_neg (by omega)]
    have ht : ∀ k, toolO ((c - 100) % 10) = some k → k < 4 := fun k hk => by
      unfold toolO at hk
      split at hk
      · cases hk
      · cases hk; omega
    obtain ⟨B2, gb, sb⟩ := r_gripOf HL (w := w) (h := (c - 100) / 10) (j := tb) (t := toolO ((c - 100) % 10)) (by omega) hb ht (gBd_row TB hR hT hb h3 (fun k hk => by
      unfold toolO at hk
      split at hk
      · cases hk
      · cases hk; omega))
    have tur := r_turns hw hT hb (h := (c - 100) / 10) (by omega) (side := B.1 46 (6 * tb + 3)) (less := 0) gb (sb.1 w (by omega) (by omega)) (sb.1 48 (by decide) (by decide)) (sb.1 46 (by decide) (by decide))
    have hg0 : 0 ≤ (gripM W (B.1 46) (B.1 48) (B.1 50) (B.1 w) ((c - 100) / 10) (toolO ((c - 100) % 10)) tb).toInt := gripM_bd.1
    rw [m0_id hg0, if_pos rfl, tryR_eq hR hb hg0, toolO_v (by omega)] at tur
    rw [em]
    refine ⟨_, ?_, sameRw.sR sb (by omega) _, sR_at _ _ _⟩
    unfold f_X12_does
    rw [if_pos q0, if_pos q3, if_pos q4, if_pos q5, io_r10 (by omega), io_d10 (by omega), io_r10 (by omega), hT]
    simp (disch := omega) only [zlE, ix_m6, ix_p3, io_in, io_cl, if_true]
    rw [show c / 10 % 10 = (c - 100) / 10 by omega, show c % 10 = (c - 100) % 10 by omega]
    by_cases h9 : (c - 100) % 10 = 9
    · rw [if_pos h9] at tur
      rw [if_neg (fun q => q (by rw [h9]; rfl)), tur, zbE]
    · rw [if_neg h9] at tur
      have q9 : ¬ Int32.ofNat ((c - 100) % 10) = 9 := fun q => h9 ((io_eq (b := 9) (by omega) (by omega)).mp q)
      rw [if_pos q9, tur, zbE]
end MU
