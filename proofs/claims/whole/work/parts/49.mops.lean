/-! Orders of hands: the reference's lines. -/
section NF
variable {d M nj nh nt : Nat} {A B : zS}
/-- a trial row behind tries of the hands in m, not open -/
def TrM (jT : Nat → Int32) (nj M tb m : Nat) (l : Int32) (n t : Nat → Int32) : Prop := t 64 = Int32.ofNat tb ∧ t (7 * tb) = n (7 * tb) ∧ t (7 * tb + 2) = n (7 * tb + 2) ∧ t (7 * tb + 1) = l ∧ t (7 * tb + 5) = 0 ∧ t (7 * tb + 6) = 0 ∧ (∀ i, i < 6 → m.testBit i = false → t (28 + 2 * i) = n (28 + 2 * i) ∧ t (28 + 2 * i + 1) = n (28 + 2 * i + 1)) ∧ RowOk jT nj M t
theorem try_TrM {jT hT n t : Nat → Int32} {M' tb h m : Nat} {l g : Int32} (hb : tb < 4) (hh : h < 6) (hM : M' < 990000) (ht : 0 ≤ (hT (5 * h + 3)).toInt) (hg : 0 ≤ g.toInt) (T : TrM jT nj M' tb m l n t) (hlt : g < holdM t tb) : TrM jT nj (M' + 1) tb (m ||| 2 ^ h) (m0 (l - g / 10)) n (tryM loR hT tb h g t) := by
  obtain ⟨x1, x2, x3, x4, x5, x6, x7, x8⟩ := T
  have lo1 : 40 ≤ loR tb h ∧ loR tb h < 64 := by unfold loR; omega
  have Rk := x8.tri (hT := hT) (lo := loR) (h := h) (by omega) hb hh lo1 ht hg
  unfold tryM at Rk ⊢
  rw [if_pos hlt] at Rk ⊢
  refine ⟨?_, ?_, ?_, ?_, ?_, ?_, fun i h1 h2 => ?_, Rk⟩
  all_goals unfold tireM looseM
  · simp (disch := omega) only [um_ne]; exact x1
  · simp (disch := omega) only [um_ne]; exact x2
  · simp (disch := omega) only [um_ne]; exact x3
  · rw [um_ne (by omega), um_ne (by omega), um_ne (by omega), um_at, x4]
  · simp (disch := omega) only [um_ne]; exact x5
  · simp (disch := omega) only [um_ne]; exact x6
  · have hi : i ≠ h := fun e => by rw [e, bt_at] at h2; cases h2
    rw [bt_ne hi] at h2
    simp (disch := omega) only [um_ne]
    exact x7 i h1 h2
/-- what the reference's orders change -/
def sOrd (B B' : zS) : Prop := (∀ b, b ≠ 41 → b ≠ 45 → b ≠ 55 → B'.1 b = B.1 b) ∧ (∀ k, (k < 8 ∨ 14 < k) → k ≠ 17 → (k < 42 ∨ 47 < k) → B'.1 41 k = B.1 41 k) ∧ B'.2.2 = B.2.2 ∧ ∀ b k, ¬ (b = 41 ∧ k = 5) → B'.2.1 b k = B.2.1 b k
theorem sOrd.tr {A B C : zS} (h1 : sOrd A B) (h2 : sOrd B C) : sOrd A C := ⟨fun b h3 h4 h5 => (h2.1 b h3 h4 h5).trans (h1.1 b h3 h4 h5), fun b h3 h4 h5 => (h2.2.1 b h3 h4 h5).trans (h1.2.1 b h3 h4 h5), h2.2.2.1.trans h1.2.2.1, fun b k h => (h2.2.2.2 b k h).trans (h1.2.2.2 b k h)⟩
theorem sOrd.rfl' (B : zS) : sOrd B B := ⟨fun _ _ _ _ => rfl, fun _ _ _ _ => rfl, rfl, fun _ _ _ => rfl⟩
theorem sOrd.run {B B' : zS} (h : sRun B B') : sOrd B B' := ⟨h.1, fun k h1 h2 h3 => h.2.1 k h1 h2 (by omega) (by omega) (by omega) (by omega), h.2.2.1, h.2.2.2⟩
theorem sOrd.fld {B : zS} {k : Nat} (hk : k = 42 ∨ k = 43) (x : Int32) : sOrd B (sV B 41 k x) := by
  rw [sV_eq]
  exact ⟨fun b h1 _ _ => sR_ne _ _ h1, fun j _ _ h3 => by rw [sR_at, ru_ne (by omega)], rfl, fun _ _ _ => rfl⟩
theorem sOrd.obs {B B' : zS} (h : sOrd B B') (hl : ∃ x, B.2.1 41 51 = .long x) : obsR B B' := by
  refine ⟨fun b hb => h.1 b (by omega) (by omega) (by omega), fun k hk => h.2.1 k (by omega) (by omega) (by omega), fun k _ => by rw [h.1 52 (by decide) (by decide) (by decide)], fun k _ => by rw [h.1 53 (by decide) (by decide) (by decide)], h.2.2.1, by rw [h.2.2.2 41 51 (by decide)]; exact hl⟩
abbrev gO (W : zLw) (B0 : zS) (tb : Nat) : Nat → Int32 := fun h => gripM W (B0.1 46) (B0.1 48) (B0.1 50) (B0.1 54) h none tb
abbrev rO (B0 : zS) (tb : Nat) : Int32 := holdM (B0.1 54) tb - B0.1 54 (7 * tb + 1)
theorem r_turnM {W : zLw} {B0 : zS} (T0 : ITold nj nh nt A B0) (w2 : LawR B0 W) {tb : Nat} (hb : tb < 4) (hM : M < 900500) {m h : Nat} {l : Int32} (hh : h < nh) (hm : m.testBit h = false) (hs : sOrd B0 B) (hT : TrM (B0.1 46) nj M tb m l (B0.1 54) (B.1 55)) :
    ∃ B', f_X12_turns 55 (Int32.ofNat h) (-1) (B.1 46 (6 * tb + 3)) 0 B = some ((), B') ∧ sRun B B' ∧ B'.1 55 64 = Int32.ofNat tb ∧ (gO W B0 tb h < rO B0 tb + l → TrM (B0.1 46) nj (M + 1) tb (m ||| 2 ^ h) (m0 (l - gO W B0 tb h / 10)) (B0.1 54) (B'.1 55)) ∧ (¬ gO W B0 tb h < rO B0 tb + l → B'.1 55 (7 * tb + 5) = 1) := by
  obtain ⟨t1, t2, t3, t4, t5, t6, t7, t8, t9, t10, t11⟩ := T0
  have n6 := t11.2.1
  have hT' := hT
  obtain ⟨x1, x2, x3, x4, x5, x6, x7, x8⟩ := hT
  have b46 : B.1 46 = B0.1 46 := hs.1 46 (by decide) (by decide) (by decide)
  have b48 : B.1 48 = B0.1 48 := hs.1 48 (by decide) (by decide) (by decide)
  have b50 : B.1 50 = B0.1 50 := hs.1 50 (by decide) (by decide) (by decide)
  have wB : LawR B W := w2.of (hs.2.1 35 (by omega) (by decide) (by decide)) (hs.1 43 (by decide) (by decide) (by decide)) (hs.1 44 (by decide) (by decide) (by decide))
  obtain ⟨B2, gb, sb⟩ := r_gripOf wB (w := 55) (h := h) (j := tb) (t := none) (by omega) hb (fun k hk => by cases hk) (by rw [b46, b48, b50]; exact gBd_row t11 x8 x1 hb hh (fun k hk => by cases hk))
  have ge : gripM W (B.1 46) (B.1 48) (B.1 50) (B.1 55) h none tb = gO W B0 tb h := by
    unfold gO gripM
    rw [b46, b48, b50, (x7 h (by omega) hm).1, (x7 h (by omega) hm).2, x3]
  have hg0 : 0 ≤ (gripM W (B.1 46) (B.1 48) (B.1 50) (B.1 55) h none tb).toInt := gripM_bd.1
  have tur := r_turns (w := 55) (by decide) x1 hb (h := h) (by omega) (side := B.1 46 (6 * tb + 3)) (less := 0) gb (sb.1 55 (by decide) (by decide)) (sb.1 48 (by decide) (by decide)) (sb.1 46 (by decide) (by decide))
  rw [m0_id hg0, if_pos rfl, tryR_eq x8 hb hg0, ge] at tur
  rw [ge] at hg0
  have tur' : f_X12_turns 55 (Int32.ofNat h) (-1) (B.1 46 (6 * tb + 3)) 0 B = _ := tur
  have hold : holdM (B.1 55) tb = rO B0 tb + l := by
    unfold rO holdM
    rw [x2, x3, x4, ring1]
  have ht3 : 0 ≤ (B.1 48 (5 * h + 3)).toInt := by rw [b48]; exact (t11.2.2.2.2.2.2.1 h (by omega)).2.2.2.1.1
  refine ⟨_, tur', sRun.ofw (sameRw.sR sb (by decide) _), ?_, fun hlt => ?_, fun hlt => ?_⟩
  · rw [sR_at]
    unfold tryM
    have lo1 : 40 ≤ loR tb h ∧ loR tb h < 64 := by unfold loR; omega
    split
    · unfold tireM looseM
      simp (disch := omega) only [um_ne]; exact x1
    · unfold tireM
      rw [um_ne (by omega), um_ne (by omega), ru_ne (by omega)]
      exact x1
  · rw [sR_at]
    rw [← hold] at hlt
    exact try_TrM hb (by omega) (by omega) ht3 hg0 hT' hlt
  · rw [sR_at]
    rw [← hold] at hlt
    unfold tryM tireM
    rw [if_neg hlt, um_ne (by omega), um_ne (by omega), ru_at]
/-- a line of hands none of whom opens the jar -/
def Pre (g : Nat → Int32) (rest stuck : Int32) (nh : Nat) : Nat → Nat → Nat → Int32 → Prop
  | 0, ln, m, l => ln = 0 ∧ m = 0 ∧ l = stuck
  | c + 1, ln', m', l' => ∃ ln m l h, Pre g rest stuck nh c ln m l ∧ h < nh ∧ m.testBit h = false ∧ g h < rest + l ∧ ln' = ln * 10 + h ∧ m' = m ||| 2 ^ h ∧ l' = m0 (l - g h / 10)
theorem Pre.lt {g : Nat → Int32} {rest stuck : Int32} (n6 : nh ≤ 6) : ∀ {c ln m : Nat} {l : Int32}, Pre g rest stuck nh c ln m l → ln < 10 ^ c ∧ m < 64 ∧ c + un m nh 0 = nh
  | 0, ln, m, l, ⟨h1, h2, _⟩ => by
    subst h1 h2
    rw [un_0]
    omega
  | c + 1, ln', m', l', ⟨ln, m, l, h, p, h1, h2, h3, e1, e2, e3⟩ => by
    obtain ⟨p1, p2, p3⟩ := Pre.lt n6 p
    have hu := un_set h2 nh 0 (by omega) (by omega)
    subst e1 e2
    refine ⟨?_, bt_3 p2 (by omega), by omega⟩
    rw [Nat.pow_succ]
    omega
theorem io_dv {a b : Nat} (ha : a < 2147483648) (hb : b < 2147483648) (h0 : b ≠ 0) : Int32.ofNat a / Int32.ofNat b = Int32.ofNat (a / b) := by
  apply ti_ofn
  rw [ti_div (by rw [ti_nat (by omega)]; omega) (by omega) h0, ti_nat (by omega)]
  rfl
theorem p10_lt {e : Nat} (he : e ≤ 6) : 10 ^ e < 2147483648 ∧ 10 ^ e ≠ 0 := by
  have := Nat.pow_le_pow_right (n := 10) (by omega) he
  have := Nat.pow_pos (a := 10) (n := e) (by omega)
  omega
theorem r_line {W : zLw} {B0 : zS} (T0 : ITold nj nh nt A B0) (w2 : LawR B0 W) {tb : Nat} (hb : tb < 4) (hM : M < 900000) {stuck : Int32} {ex : Int32 → Int32 → zS → Option (Unit × zS)} : ∀ (c ln m : Nat) (l : Int32), Pre (gO W B0 tb) (rO B0 tb) stuck nh c ln m l → ∀ (N e f : Nat) (B : zS), N / 10 ^ e = ln → N < 1000000 → c + e ≤ 6 → sOrd B0 B → TrM (B0.1 46) nj M tb 0 stuck (B0.1 54) (B.1 55) →
    ∃ B' y, f_X12_lineUp_L37 ex (Int32.ofNat N) (Int32.ofNat (c + e)) (f + c) (Int32.ofNat (10 ^ (c + e - 1))) 0 B = f_X12_lineUp_L37 ex (Int32.ofNat N) (Int32.ofNat (c + e)) f y (Int32.ofNat c) B' ∧ (1 ≤ e → y = Int32.ofNat (10 ^ (e - 1))) ∧ sRun B B' ∧ TrM (B0.1 46) nj (M + c) tb m l (B0.1 54) (B'.1 55)
  | 0, ln, m, l, ⟨h1, h2, h3⟩, N, e, f, B, hN, hN6, he, hs, hT => by
    subst h2 h3
    exact ⟨B, _, rfl, fun _ => by rw [Nat.zero_add], sRun.rfl' B, hT⟩
  | c + 1, ln', m', l', ⟨ln, m, l, h, p, h1, h2, h3, e1, e2, e3⟩, N, e, f, B, hN, hN6, he, hs, hT => by
    have n6 : nh ≤ 6 := T0.2.2.2.2.2.2.2.2.2.2.2.1
    have hd : N / 10 ^ (e + 1) = ln := by
      rw [Nat.pow_succ, ← Nat.div_div_eq_div_mul, hN, e1]
      omega
    obtain ⟨B1, y, z1, z2, z3, z4⟩ := r_line (ex := ex) T0 w2 hb hM c ln m l p N (e + 1) (f + 1) B hd hN6 (by omega) hs hT
    have ey : y = Int32.ofNat (10 ^ e) := z2 (by omega)
    obtain ⟨q1, q2⟩ := p10_lt (e := e) (by omega)
    have s1 : sOrd B0 B1 := hs.tr (sOrd.run z3)
    obtain ⟨B2, g1, g2, g3, g4, g5⟩ := r_turnM (M := M + c) T0 w2 hb (by omega) h1 h2 s1 z4
    have i3 : ia_in (6 * Int32.ofNat tb + 3) 24 = true := by simp (disch := omega) only [ix_m6, ix_p3, io_in]
    have c3 : (6 * Int32.ofNat tb + 3).toNatClampNeg = 6 * tb + 3 := by simp (disch := omega) only [ix_m6, ix_p3, io_cl]
    have ne : ¬ Int32.ofNat (c + (e + 1)) ≤ Int32.ofNat c := fun q => by have := (io_le (by omega) (by omega)).mp q; omega
    have nz : ¬ Int32.ofNat (10 ^ e) = 0 := fun q => q2 ((io_eq (b := 0) (by omega) (by omega)).mp q)
    have dg : Int32.ofNat (N / 10 ^ e) - Int32.ofNat (N / 10 ^ e) / 10 * 10 = Int32.ofNat h := by
      rw [hN, e1, show Int32.ofNat (ln * 10 + h) / 10 = Int32.ofNat ((ln * 10 + h) / 10) from io_dv (b := 10) (by have := Nat.div_le_self N (10 ^ e); omega) (by omega) (by omega), show (ln * 10 + h) / 10 = ln by omega, ← io_dig, Int32.add_comm, Int32.add_sub_cancel]
    refine ⟨B2, Int32.ofNat (10 ^ e / 10), ?_, fun h1 => ?_, z3.tr g2, ?_⟩
    · rw [show c + 1 + e = c + (e + 1) by omega, show f + (c + 1) = f + 1 + c by omega, z1, ey, f_X12_lineUp_L37, if_neg ne, if_neg nz, z4.1, if_pos i3, c3, io_dv (by omega) q1 q2, dg, g1, zbE, zlE, zlE, io_sc, show Int32.ofNat (10 ^ e) / 10 = Int32.ofNat (10 ^ e / 10) from io_dv (b := 10) q1 (by omega) (by omega)]
    · obtain ⟨e, rfl⟩ : ∃ k, e = k + 1 := ⟨e - 1, by omega⟩
      rw [Nat.pow_succ, Nat.mul_div_cancel _ (by omega)]
      rfl
    · rw [e2, e3]
      exact g4 h3
theorem r_lineUp {W : zLw} {B0 : zS} (T0 : ITold nj nh nt A B0) (w2 : LawR B0 W) {tb : Nat} (hb : tb < 4) (hM : M < 900000) {r0 : Nat → Int32} (R0 : IRow (B0.1 46) nj M r0 (B0.1 54)) (k64 : B0.1 54 64 = Int32.ofNat tb) (k5 : B0.1 54 (7 * tb + 5) = 0) (k6 : B0.1 54 (7 * tb + 6) = 0) {c ln m : Nat} {l : Int32} (hc : c ≤ 6) (P : Pre (gO W B0 tb) (rO B0 tb) (B0.1 54 (7 * tb + 1)) nh c ln m l) (hs : sOrd B0 B) :
    ∃ B', f_X12_lineUp (Int32.ofNat ln) (Int32.ofNat c) B = some ((), B') ∧ sRun B B' ∧ TrM (B0.1 46) nj (M + c) tb m l (B0.1 54) (B'.1 55) := by
  have n6 : nh ≤ 6 := T0.2.2.2.2.2.2.2.2.2.2.2.1
  obtain ⟨p1, p2, p3⟩ := P.lt n6
  have b54 : B.1 54 = B0.1 54 := hs.1 54 (by decide) (by decide) (by decide)
  have e : ∀ k, k < 66 → (sR B 55 (cpy (B.1 54) (B.1 55) 0 0 66)).1 55 k = B0.1 54 k := fun k hk => by rw [sR_at, ← b54]; exact cpy_0 hk
  have s1 : sRun B (sR B 55 (cpy (B.1 54) (B.1 55) 0 0 66)) := sRun.ofw (sameRw.sR (sameR.rfl' B) (by decide) _)
  unfold f_X12_lineUp
  rw [r_copyrr (by decide), zbE]
  generalize sR B 55 (cpy (B.1 54) (B.1 55) 0 0 66) = B1 at e s1
  have hT : TrM (B0.1 46) nj M tb 0 (B0.1 54 (7 * tb + 1)) (B0.1 54) (B1.1 55) := by
    have R2 := R0.cg (r' := r0) (fun _ _ => rfl) e
    refine ⟨?_, ?_, ?_, ?_, ?_, ?_, fun i hi _ => ⟨?_, ?_⟩, R2.2.tr R2.1⟩
    · rw [e _ (by omega)]; exact k64
    · exact e _ (by omega)
    · exact e _ (by omega)
    · exact e _ (by omega)
    · rw [e _ (by omega)]; exact k5
    · rw [e _ (by omega)]; exact k6
    · exact e _ (by omega)
    · exact e _ (by omega)
  have hN : ln < 1000000 := by
    have := Nat.pow_le_pow_right (n := 10) (by omega) hc
    omega
  have L : ∀ (k i f : Nat) (ex : Int32 → Int32 → zS → Option (Unit × zS)), 1 ≤ i → i + k = c → k < f → f_X12_lineUp_L17 ex (Int32.ofNat ln) (Int32.ofNat c) f (Int32.ofNat (10 ^ (i - 1))) (Int32.ofNat i) B1 = ex (Int32.ofNat (10 ^ (c - 1))) (Int32.ofNat c) B1 := by
    intro k
    induction k with
    | zero =>
      intro i f ex h1 hi hf
      obtain ⟨f, rfl⟩ : ∃ g, f = g + 1 := ⟨f - 1, by omega⟩
      have hi : i = c := by omega
      subst hi
      unfold f_X12_lineUp_L17
      rw [if_pos (Int32.le_refl _)]
    | succ k ih =>
      intro i f ex h1 hi hf
      obtain ⟨f, rfl⟩ : ∃ g, f = g + 1 := ⟨f - 1, by omega⟩
      have q : ¬ Int32.ofNat c ≤ Int32.ofNat i := fun q => by have := (io_le (by omega) (by omega)).mp q; omega
      have e10 : Int32.ofNat (10 ^ (i - 1)) * 10 = Int32.ofNat (10 ^ (i + 1 - 1)) := by
        rw [show i + 1 - 1 = (i - 1) + 1 by omega, Nat.pow_succ, Int32.ofNat_mul]
        rfl
      unfold f_X12_lineUp_L17
      rw [if_neg q, zlE, zlE, e10, io_sc]
      exact ih (i + 1) f ex (by omega) (by omega) (by omega)
  have L2 : ∀ (ex : Int32 → Int32 → zS → Option (Unit × zS)), ∃ y, f_X12_lineUp_L17 ex (Int32.ofNat ln) (Int32.ofNat c) zN 1 1 B1 = ex (Int32.ofNat (10 ^ (c - 1))) y B1 := by
    intro ex
    by_cases h0 : c = 0
    · subst h0
      refine ⟨1, ?_⟩
      obtain ⟨z, hz⟩ : ∃ z, zN = z + 1 := ⟨4999, rfl⟩
      rw [hz, f_X12_lineUp_L17, if_pos (show Int32.ofNat 0 ≤ 1 by decide)]
      rfl
    · exact ⟨_, L (c - 1) 1 zN ex (by omega) (by omega) (by unfold zN; omega)⟩
  obtain ⟨y, ey⟩ := L2 (fun (q8 : Int32) (q9 : Int32) (S7 : zS) => f_X12_lineUp_L37 (fun (q19 : Int32) (q20 : Int32) (S18 : zS) => some ((), S18)) (Int32.ofNat ln) (Int32.ofNat c) zN q8 0 S7)
  rw [ey]
  obtain ⟨f, hf⟩ : ∃ f, zN = (f + 1) + c := ⟨4999 - c, by unfold zN; omega⟩
  obtain ⟨B2, y2, z1, z2, z3, z4⟩ := r_line (ex := fun (q19 : Int32) (q20 : Int32) (S18 : zS) => some ((), S18)) T0 w2 hb hM c ln m l P ln 0 (f + 1) B1 (by rw [Nat.pow_zero, Nat.div_one]) hN (by omega) (hs.tr (sOrd.run s1)) hT
  rw [Nat.add_zero] at z1
  refine ⟨B2, ?_, s1.tr z3, z4⟩
  rw [hf, z1, f_X12_lineUp_L37, if_pos (Int32.le_refl _)]
end NF
