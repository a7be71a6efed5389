/-! Plans apart: run, best. -/
section MX
variable {d M nj nh nt : Nat} {A B : zS}
theorem r_cprr {w v : Nat} (hw : w ≠ v) {ex : Int32 → zS → Option (Unit × zS)} : ∀ (m i f : Nat), i + m = 66 → m < f → f_X12_copy_rw_rw_L2 w v ex f (Int32.ofNat i) (sR B v (cpy (B.1 w) (B.1 v) 0 0 i)) = ex 66 (sR B v (cpy (B.1 w) (B.1 v) 0 0 66)) := by
  intro m
  induction m with
  | zero =>
    intro i f hi hf
    obtain ⟨f, rfl⟩ : ∃ g, f = g + 1 := ⟨f - 1, by omega⟩
    have hi : i = 66 := by omega
    subst hi
    unfold f_X12_copy_rw_rw_L2
    exact if_pos (Int32.le_refl _)
  | succ m ih =>
    intro i f hi hf
    obtain ⟨f, rfl⟩ : ∃ g, f = g + 1 := ⟨f - 1, by omega⟩
    have e2 : ru (cpy (B.1 w) (B.1 v) 0 0 i) i (B.1 w i) = cpy (B.1 w) (B.1 v) 0 0 (i + 1) := by
      funext k
      unfold ru cpy
      by_cases c : k = i
      · subst c
        rw [if_pos rfl, if_pos (by omega), Nat.zero_add, Nat.sub_zero]
      · rw [if_neg c]
        by_cases c2 : 0 ≤ k ∧ k < 0 + i
        · rw [if_pos c2, if_pos (by omega)]
        · rw [if_neg c2, if_neg (by omega)]
    have h66 : ¬ (66 : Int32) ≤ Int32.ofNat i := fun q => by have := (io_le (a := 66) (b := i) (by omega) (by omega)).mp q; omega
    unfold f_X12_copy_rw_rw_L2
    rw [if_neg h66]
    simp (disch := omega) only [io_in, io_cl, if_true, zlE, sV_eq, sR_at, sR_sR, sR_ne, e2, io_sc]
    exact ih (i + 1) f (by omega) (by omega)
theorem r_copyrr {w v : Nat} (hw : w ≠ v) : f_X12_copy_rw_rw w v B = some ((), sR B v (cpy (B.1 w) (B.1 v) 0 0 66)) := by
  have e := r_cprr (B := B) hw (ex := fun _ S6 => some ((), S6)) 66 0 zN (by omega) (by unfold zN; omega)
  have e0 : cpy (B.1 w) (B.1 v) 0 0 0 = B.1 v := by funext k; exact cpy_out (by omega)
  rw [e0, sR_self] at e
  exact e
/-- what the reference's trials change -/
def sRun (B B' : zS) : Prop := (∀ b, b ≠ 41 → b ≠ 45 → b ≠ 55 → B'.1 b = B.1 b) ∧ (∀ k, (k < 8 ∨ 14 < k) → k ≠ 17 → k ≠ 44 → k ≠ 45 → k ≠ 46 → k ≠ 47 → B'.1 41 k = B.1 41 k) ∧ B'.2.2 = B.2.2 ∧ ∀ b k, ¬ (b = 41 ∧ k = 5) → B'.2.1 b k = B.2.1 b k
theorem sRun.tr {A B C : zS} (h1 : sRun A B) (h2 : sRun B C) : sRun A C := ⟨fun b h3 h4 h5 => (h2.1 b h3 h4 h5).trans (h1.1 b h3 h4 h5), fun b h3 h4 h5 h6 h7 h8 => (h2.2.1 b h3 h4 h5 h6 h7 h8).trans (h1.2.1 b h3 h4 h5 h6 h7 h8), h2.2.2.1.trans h1.2.2.1, fun b k h => (h2.2.2.2 b k h).trans (h1.2.2.2 b k h)⟩
theorem sRun.rfl' (B : zS) : sRun B B := ⟨fun _ _ _ _ => rfl, fun _ _ _ _ _ _ _ => rfl, rfl, fun _ _ _ => rfl⟩
theorem sRun.ofw {B B' : zS} (h : sameRw 55 B B') : sRun B B' := ⟨h.1, fun k h1 h2 _ _ _ _ => h.2.1 k h1 h2, h.2.2.1, h.2.2.2⟩
theorem sRun.fld {B : zS} {k : Nat} (hk : k = 44 ∨ k = 45 ∨ k = 46 ∨ k = 47) (x : Int32) : sRun B (sV B 41 k x) := by
  rw [sV_eq]
  exact ⟨fun b h1 _ _ => sR_ne _ _ h1, fun j _ _ h3 h4 h5 h6 => by rw [sR_at, ru_ne (by omega)], rfl, fun _ _ _ => rfl⟩
theorem sRun.obs {B B' : zS} (h : sRun B B') (hl : ∃ x, B.2.1 41 51 = .long x) : obsR B B' := by
  refine ⟨fun b hb => h.1 b (by omega) (by omega) (by omega), fun k hk => h.2.1 k (by omega) (by omega) (by omega) (by omega) (by omega) (by omega), fun k _ => by rw [h.1 52 (by decide) (by decide) (by decide)], fun k _ => by rw [h.1 53 (by decide) (by decide) (by decide)], h.2.2.1, by rw [h.2.2.2 41 51 (by decide)]; exact hl⟩
theorem sameCo.obs {o : Nat} {A A' : zS} (ho : o = 19 ∨ o = 31 ∨ o = 33) (h : sameCo o A A') (hl : ∃ x, A.2.1 0 18 = .long x) : obsC A A' := by
  refine ⟨fun b hb => h.2 b (by omega) (by omega) (by omega), by rw [h.2 1 (by omega) (by decide) (by decide)], by rw [h.1], fun b k _ => by rw [h.1], by rw [h.1]; exact hl⟩
theorem ITold.of {A A' B B' : zS} (T : ITold nj nh nt A B) (h12 : A'.1 12 = A.1 12) (h13 : A'.1 13 = A.1 13) (h0 : A'.1 0 17 = A.1 0 17) (g24 : B'.1 41 24 = B.1 41 24) (g25 : B'.1 41 25 = B.1 41 25) (g26 : B'.1 41 26 = B.1 41 26) (q46 : B'.1 46 = B.1 46) (q48 : B'.1 48 = B.1 48) (q50 : B'.1 50 = B.1 50) : ITold nj nh nt A' B' := by
  unfold ITold
  rw [h12, h13, h0, g24, g25, g26, q46, q48, q50]
  exact T
def holeF (st : Nat → Int32) : Nat → Int32
  | 0 => 0
  | i + 1 => if ¬ holeF st i = 0 then 1 else if st i = 2 then 1 else 0
def holeG (st : Nat → Int32) : Nat → Nat → Int32
  | 0, _ => 0
  | k + 1, i => if st i = 2 then 1 else holeG st k (i + 1)
theorem holeF_01 (st : Nat → Int32) : ∀ i, holeF st i = 0 ∨ holeF st i = 1
  | 0 => Or.inl rfl
  | i + 1 => by
    unfold holeF
    split
    · exact Or.inr rfl
    · split
      · exact Or.inr rfl
      · exact Or.inl rfl
theorem holeF_s (st : Nat → Int32) (i : Nat) : holeF st (i + 1) = if ¬ holeF st i = 0 then 1 else if st i = 2 then 1 else 0 := rfl
theorem holeG_s (st : Nat → Int32) (k i : Nat) : holeG st (k + 1) i = if st i = 2 then 1 else holeG st k (i + 1) := rfl
theorem holeFG (st : Nat → Int32) : ∀ k i, holeF st (i + k) = if ¬ holeF st i = 0 then 1 else holeG st k i
  | 0, i => by
    rw [Nat.add_zero]
    rcases holeF_01 st i with h | h
    · rw [h, if_neg n00]; rfl
    · rw [h, if_pos n10]
  | k + 1, i => by
    rw [show i + (k + 1) = i + 1 + k by omega, holeFG st k (i + 1), holeF_s, holeG_s]
    by_cases h : holeF st i = 0
    · have h' : ¬ ¬ holeF st i = 0 := fun q => q h
      rw [if_neg h', if_neg h']
      by_cases h2 : st i = 2
      · rw [if_pos h2, if_pos h2, if_pos n10]
      · rw [if_neg h2, if_neg h2, if_neg n00]
    · rw [if_pos h, if_pos h, if_pos n10]
theorem c_hasHole {a m e : Nat} {st : Nat → Int32} (hm : A.2.2.1 a = m) (hm2 : m ≤ 16) (hst : ∀ i, i < m → A.1 a i = st i) (he : e ≤ m) : ∀ (k i f : Nat), i + k = e → k < f → f_X11_hasHole_L2 a (fun _ S6 => some (0, S6)) (Int32.ofNat e) f (Int32.ofNat i) A = some (holeG st k i, A) := by
  intro k
  induction k with
  | zero =>
    intro i f hi hf
    obtain ⟨f, rfl⟩ : ∃ g, f = g + 1 := ⟨f - 1, by omega⟩
    have hi : i = e := by omega
    subst hi
    unfold f_X11_hasHole_L2
    rw [if_pos (Int32.le_refl _)]
    rfl
  | succ k ih =>
    intro i f hi hf
    obtain ⟨f, rfl⟩ : ∃ g, f = g + 1 := ⟨f - 1, by omega⟩
    have q1 : ¬ Int32.ofNat e ≤ Int32.ofNat i := fun q => by have := (io_le (by omega) (by omega)).mp q; omega
    have q2 : ¬ Int32.ofNat m ≤ Int32.ofNat i := fun q => by have := (io_le (by omega) (by omega)).mp q; omega
    unfold f_X11_hasHole_L2 holeG
    rw [if_neg q1, hm, if_neg q2, if_pos (io_in (by omega) (by omega)), io_cl (by omega), hst i (by omega)]
    by_cases h2 : st i = 2
    · rw [if_neg (fun q => q h2), if_pos h2]
    · rw [if_pos h2, if_neg h2, zlE, io_sc]
      exact ih (i + 1) f (by omega) (by omega)
/-- what stays while a plan is played apart -/
def PlB (nj nh nt p a m : Nat) (st : Nat → Int32) (W : zLw) (A B : zS) : Prop := ITold nj nh nt A B ∧ LawC A W ∧ LawR B W ∧ A.2.2.1 a = m ∧ (∀ i, i < m → A.1 a i = st i) ∧ B.1 53 p = Int32.ofNat m ∧ ∀ i, i < m → B.1 52 (16 * p + i) = st i
theorem PlB.of {p a m : Nat} {st : Nat → Int32} {W : zLw} {A A' B B' : zS} (H : PlB nj nh nt p a m st W A B) (ha : 64 ≤ a) (hA : sameCo 19 A A') (hB : sRun B B') : PlB nj nh nt p a m st W A' B' := by
  obtain ⟨h1, h2, h3, h4, h5, h6, h7⟩ := H
  refine ⟨h1.of (hA.2 12 (by decide) (by decide) (by decide)) (hA.2 13 (by decide) (by decide) (by decide)) (by rw [hA.2 0 (by decide) (by decide) (by decide)]) (hB.2.1 24 (by omega) (by decide) (by decide) (by decide) (by decide) (by decide)) (hB.2.1 25 (by omega) (by decide) (by decide) (by decide) (by decide) (by decide)) (hB.2.1 26 (by omega) (by decide) (by decide) (by decide) (by decide) (by decide)) (hB.1 46 (by decide) (by decide) (by decide)) (hB.1 48 (by decide) (by decide) (by decide)) (hB.1 50 (by decide) (by decide) (by decide)), h2.co hA (by decide), h3.of (hB.2.1 35 (by omega) (by decide) (by decide) (by decide) (by decide) (by decide)) (hB.1 43 (by decide) (by decide) (by decide)) (hB.1 44 (by decide) (by decide) (by decide)), by rw [hA.1]; exact h4, fun i hi => ?_, ?_, fun i hi => ?_⟩
  · rw [hA.2 a (by omega) (by omega) (by omega)]; exact h5 i hi
  · rw [hB.1 53 (by decide) (by decide) (by decide)]; exact h6
  · rw [hB.1 52 (by decide) (by decide) (by decide)]; exact h7 i hi
def Flg (tb i : Nat) (st : Nat → Int32) (A B : zS) : Prop := B.1 41 44 = (if A.1 20 (7 * tb + 5) = 1 then Int32.ofNat i else -1) ∧ B.1 41 45 = (if A.1 20 (7 * tb + 6) = 1 then Int32.ofNat i else -1) ∧ B.1 41 47 = holeF st i
def gpT (G : Int32 → zS → Option (Unit × zS)) (x2 : Int32) (S24 : zS) : Option (Unit × zS) :=
    if ia_in ((7 * (S24.1 55 64)) + 5) 66 = true then
    zl (fun (S28 : zS) =>
    if ia_in ((7 * (S28.1 55 64)) + 6) 66 = true then
    zl (fun (S32 : zS) =>
    zl (x2 + 1) fun (y33 : Int32) =>
    G y33 S32) fun J31 =>
    if ¬ (S28.1 55 ((7 * (S28.1 55 64)) + 6).toNatClampNeg) = 1 then
    J31 S28
    else
    zl (sV S28 41 45 (x2 + 1)) fun S34 =>
    J31 S34
    else none) fun J27 =>
    if ¬ (S24.1 55 ((7 * (S24.1 55 64)) + 5).toNatClampNeg) = 1 then
    J27 S24
    else
    zl (sV S24 41 44 (x2 + 1)) fun S35 =>
    J27 S35
    else none
def gpO (tb : Nat) (x : Int32) (S : zS) : zS := if S.1 55 (7 * tb + 5) = 1 then sV S 41 44 x else S
def gpS (tb : Nat) (x : Int32) (S : zS) : zS := if S.1 55 (7 * tb + 6) = 1 then sV (gpO tb x S) 41 45 x else gpO tb x S
theorem gpO_f (tb : Nat) (x : Int32) (S : zS) : (gpO tb x S).1 55 = S.1 55 ∧ sRun S (gpO tb x S) ∧ (gpO tb x S).1 41 44 = (if S.1 55 (7 * tb + 5) = 1 then x else S.1 41 44) ∧ (gpO tb x S).1 41 45 = S.1 41 45 ∧ (gpO tb x S).1 41 47 = S.1 41 47 := by
  unfold gpO
  split
  · refine ⟨?_, sRun.fld (by omega) x, ?_, ?_, ?_⟩
    · rw [sV_eq, sR_ne _ _ (by decide)]
    · rw [sV_eq, sR_at, ru_at]
    · rw [sV_eq, sR_at, ru_ne (by decide)]
    · rw [sV_eq, sR_at, ru_ne (by decide)]
  · exact ⟨rfl, sRun.rfl' S, rfl, rfl, rfl⟩
theorem gpS_f (tb : Nat) (x : Int32) (S : zS) : (gpS tb x S).1 55 = S.1 55 ∧ sRun S (gpS tb x S) ∧ (gpS tb x S).1 41 44 = (if S.1 55 (7 * tb + 5) = 1 then x else S.1 41 44) ∧ (gpS tb x S).1 41 45 = (if S.1 55 (7 * tb + 6) = 1 then x else S.1 41 45) ∧ (gpS tb x S).1 41 47 = S.1 41 47 := by
  obtain ⟨o1, o2, o3, o4, o5⟩ := gpO_f tb x S
  unfold gpS
  split
  · refine ⟨?_, o2.tr (sRun.fld (by omega) x), ?_, ?_, ?_⟩
    · rw [sV_eq, sR_ne _ _ (by decide), o1]
    · rw [sV_eq, sR_at, ru_ne (by decide), o3]
    · rw [sV_eq, sR_at, ru_at]
    · rw [sV_eq, sR_at, ru_ne (by decide), o5]
  · exact ⟨o1, o2, o3, o4, o5⟩
theorem gpT_eq {G : Int32 → zS → Option (Unit × zS)} {tb : Nat} {x : Int32} {S : zS} (hT : S.1 55 64 = Int32.ofNat tb) (hb : tb < 4) : gpT G x S = G (x + 1) (gpS tb (x + 1) S) := by
  have i5 : ia_in (7 * Int32.ofNat tb + 5) 66 = true := by simp (disch := omega) only [ix_m7, ix_p5, io_in]
  have c5 : (7 * Int32.ofNat tb + 5).toNatClampNeg = 7 * tb + 5 := by simp (disch := omega) only [ix_m7, ix_p5, io_cl]
  have i6 : ia_in (7 * Int32.ofNat tb + 6) 66 = true := by simp (disch := omega) only [ix_m7, ix_p6, io_in]
  have c6 : (7 * Int32.ofNat tb + 6).toNatClampNeg = 7 * tb + 6 := by simp (disch := omega) only [ix_m7, ix_p6, io_cl]
  have J : ∀ U : zS, U.1 55 = S.1 55 → (if ia_in ((7 * (U.1 55 64)) + 6) 66 = true then (if ¬ (U.1 55 ((7 * (U.1 55 64)) + 6).toNatClampNeg) = 1 then G (x + 1) U else G (x + 1) (sV U 41 45 (x + 1))) else none) = G (x + 1) (if S.1 55 (7 * tb + 6) = 1 then sV U 41 45 (x + 1) else U) := by
    intro U hU
    rw [hU, hT, if_pos i6, c6]
    by_cases h : S.1 55 (7 * tb + 6) = 1
    · rw [if_neg (fun q => q h), if_pos h]
    · rw [if_pos h, if_neg h]
  unfold gpT gpS gpO
  simp only [zlE]
  rw [hT, if_pos i5, c5]
  by_cases h : S.1 55 (7 * tb + 5) = 1
  · rw [if_neg (fun q => q h), if_pos h]
    exact J _ (by rw [sV_eq, sR_ne _ _ (by decide)])
  · rw [if_pos h, if_neg h]
    have := J S rfl
    rw [hT] at this
    exact this
theorem plan_L {p a m tb : Nat} {st : Nat → Int32} {W : zLw} {ex : Int32 → zS → Option (Unit × zS)} (hp : p < 4) (ha : 64 ≤ a) (hm : m ≤ 16) (hs : ∀ i, i < m → stepOk (st i)) (hMx : M < 900000) (hb : tb < 4) (hbn : tb < nj) : ∀ (k i f : Nat) (A B : zS), i + k = m → k < f → PlB nj nh nt p a m st W A B → IRow (B.1 46) nj (M + 60 * i) (A.1 20) (B.1 55) → A.1 20 64 = Int32.ofNat tb → Flg tb i st A B →
    ∃ e A' B', e ≤ m ∧ f_X11_rehearse_L15 a (fun q26 _ S25 => some (q26, S25)) f (Int32.ofNat i) (Int32.ofNat i) A = some (Int32.ofNat e, A') ∧ f_X12_goPlan_L29 ex (Int32.ofNat p) f (Int32.ofNat i) B = ex (Int32.ofNat e) B' ∧ sameCo 19 A A' ∧ sRun B B' ∧ IRow (B.1 46) nj (M + 1000) (A'.1 20) (B'.1 55) ∧ A'.1 20 64 = Int32.ofNat tb ∧ Flg tb e st A' B' := by
  intro k
  induction k with
  | zero =>
    intro i f A B hi hf HP R h64 F
    obtain ⟨f, rfl⟩ : ∃ g, f = g + 1 := ⟨f - 1, by omega⟩
    have hi : i = m := by omega
    subst hi
    obtain ⟨T, w1, w2, z4, z5, z6, z7⟩ := HP
    unfold f_X11_rehearse_L15 f_X12_goPlan_L29
    rw [z4, if_pos (Int32.le_refl _), if_pos (io_in (by omega) (by omega)), io_cl (a := p) (by omega), z6, if_pos (Int32.le_refl _)]
    exact ⟨i, A, B, Nat.le_refl _, rfl, rfl, sameCo.of (sameC.rfl' A), sRun.rfl' B, R.mono (by omega), h64, F⟩
  | succ k ih =>
    intro i f A B hi hf HP R h64 F
    obtain ⟨f, rfl⟩ : ∃ g, f = g + 1 := ⟨f - 1, by omega⟩
    have HP' := HP
    obtain ⟨T, w1, w2, z4, z5, z6, z7⟩ := HP'
    have hlt : ¬ Int32.ofNat m ≤ Int32.ofNat i := fun q => by have := (io_le (by omega) (by omega)).mp q; omega
    have h64' : B.1 55 64 = Int32.ofNat tb := by rw [← R.1.pl (by omega)]; exact h64
    obtain ⟨-, -, -, -, c5, c6, -⟩ := R.2.2.1 tb hb
    unfold f_X11_rehearse_L15 f_X12_goPlan_L29
    rw [z4, if_neg hlt, if_pos (io_in (show p < 5 by omega) (by omega)), io_cl (a := p) (by omega), z6, if_neg hlt, c_onTable (o := 19) h64, zbE, c_isClosed (o := 19) hb, zbE, r_isDone (w := 55) h64' hb, zbE, ← R.1.pl (k := 7 * tb + 5) (by omega), ← R.1.pl (k := 7 * tb + 6) (by omega)]
    have n01 : ¬ (0 : Int32) = 1 := by decide
    by_cases hd : A.1 20 (7 * tb + 5) = 0 ∧ A.1 20 (7 * tb + 6) = 0
    case neg =>
      have hd2 : A.1 20 (7 * tb + 5) = 1 ∨ A.1 20 (7 * tb + 6) = 1 := by
        rcases c5 with c5 | c5
        · rcases c6 with c6 | c6
          · exact absurd ⟨c5, c6⟩ hd
          · exact Or.inr c6
        · exact Or.inl c5
      rw [if_neg hd, if_pos rfl, if_pos hd2, if_pos n10]
      exact ⟨i, A, B, by omega, rfl, rfl, sameCo.of (sameC.rfl' A), sRun.rfl' B, R.mono (by omega), h64, F⟩
    have hd2 : ¬ (A.1 20 (7 * tb + 5) = 1 ∨ A.1 20 (7 * tb + 6) = 1) := by
      rw [hd.1, hd.2]
      exact fun q => q.elim n01 n01
    obtain ⟨c, hc, hcs⟩ := stepC (hs i (by omega))
    have x5 := z5 i (by omega)
    have x7 := z7 i (by omega)
    obtain ⟨t1, t2, t3, t4, t5, t6, t7, t8, t9, t10, t11⟩ := T
    have T : ITold nj nh nt A B := HP.1
    rw [if_pos hd, if_neg n10, if_neg hd2, if_neg n00, z4, if_pos (io_in (show i < m by omega) (by omega)), io_cl (a := i) (by omega), x5]
    have i80 : ia_in (16 * Int32.ofNat p + Int32.ofNat i) 80 = true := by simp (disch := omega) only [ix_m16, ix_aa, io_in]
    have c80 : (16 * Int32.ofNat p + Int32.ofNat i).toNatClampNeg = 16 * p + i := by simp (disch := omega) only [ix_m16, ix_aa, io_cl]
    rw [if_pos i80, c80, x7]
    -- what comes behind the step
    have tail : ∀ (A2 B2 : zS), sameCo 19 A A2 → sRun B B2 → IRow (B.1 46) nj (M + 60 * (i + 1)) (A2.1 20) (B2.1 55) → A2.1 20 64 = Int32.ofNat tb → B2.1 41 44 = -1 → B2.1 41 45 = -1 → B2.1 41 47 = holeF st i →
        ∃ e A' B', e ≤ m ∧ f_X11_rehearse_L15 a (fun q26 _ S25 => some (q26, S25)) f (Int32.ofNat i + 1) (Int32.ofNat i + 1) A2 = some (Int32.ofNat e, A') ∧
        (if ¬ (B2.1 41 47) = 0 then gpT (f_X12_goPlan_L29 ex (Int32.ofNat p) f) (Int32.ofNat i) (sV B2 41 47 1) else if ¬ st i = 2 then gpT (f_X12_goPlan_L29 ex (Int32.ofNat p) f) (Int32.ofNat i) (sV B2 41 47 0) else gpT (f_X12_goPlan_L29 ex (Int32.ofNat p) f) (Int32.ofNat i) (sV B2 41 47 1)) = ex (Int32.ofNat e) B' ∧
        sameCo 19 A A' ∧ sRun B B' ∧ IRow (B.1 46) nj (M + 1000) (A'.1 20) (B'.1 55) ∧ A'.1 20 64 = Int32.ofNat tb ∧ Flg tb e st A' B' := by
      intro A2 B2 sA sB R2 g64 f44 f45 f47
      have g64' : B2.1 55 64 = Int32.ofNat tb := by rw [← R2.1.pl (by omega)]; exact g64
      have go : ∀ x : Int32, x = holeF st (i + 1) → ∃ e A' B', e ≤ m ∧ f_X11_rehearse_L15 a (fun q26 _ S25 => some (q26, S25)) f (Int32.ofNat i + 1) (Int32.ofNat i + 1) A2 = some (Int32.ofNat e, A') ∧ gpT (f_X12_goPlan_L29 ex (Int32.ofNat p) f) (Int32.ofNat i) (sV B2 41 47 x) = ex (Int32.ofNat e) B' ∧
          sameCo 19 A A' ∧ sRun B B' ∧ IRow (B.1 46) nj (M + 1000) (A'.1 20) (B'.1 55) ∧ A'.1 20 64 = Int32.ofNat tb ∧ Flg tb e st A' B' := by
        intro x hx
        have v55 : (sV B2 41 47 x).1 55 = B2.1 55 := by rw [sV_eq, sR_ne _ _ (by decide)]
        rw [gpT_eq (tb := tb) (by rw [v55]; exact g64') hb, io_sc]
        obtain ⟨y1, y2, y3, y4, y5⟩ := gpS_f tb (Int32.ofNat (i + 1)) (sV B2 41 47 x)
        have sB3 : sRun B (gpS tb (Int32.ofNat (i + 1)) (sV B2 41 47 x)) := (sB.tr (sRun.fld (by omega) x)).tr y2
        generalize gpS tb (Int32.ofNat (i + 1)) (sV B2 41 47 x) = B3 at y1 y2 y3 y4 y5 sB3 ⊢
        rw [v55] at y1 y3 y4
        have q46 : B3.1 46 = B.1 46 := sB3.1 46 (by decide) (by decide) (by decide)
        obtain ⟨e, A', B', r1, r2, r3, r4, r5, r6, r7, r8⟩ := ih (i + 1) f A2 B3 (by omega) (by omega) (HP.of ha sA sB3) (by rw [q46, y1]; exact R2) g64 (by
          refine ⟨?_, ?_, ?_⟩
          · rw [y3, ← R2.1.pl (k := 7 * tb + 5) (by omega), sV_eq, sR_at, ru_ne (by decide), f44]
          · rw [y4, ← R2.1.pl (k := 7 * tb + 6) (by omega), sV_eq, sR_at, ru_ne (by decide), f45]
          · rw [y5, sV_eq, sR_at, ru_at, hx])
        rw [q46] at r6
        exact ⟨e, A', B', r1, r2, r3, sA.tr r4, sB3.tr r5, r6, r7, r8⟩
      rw [f47]
      by_cases h0 : holeF st i = 0
      · rw [if_neg (fun q => q h0)]
        by_cases h2 : st i = 2
        · rw [if_neg (fun q => q h2)]
          exact go 1 (by rw [holeF_s, if_neg (fun q => q h0), if_pos h2])
        · rw [if_pos h2]
          exact go 0 (by rw [holeF_s, if_neg (fun q => q h0), if_neg h2])
      · rw [if_pos h0]
        exact go 1 (by rw [holeF_s, if_pos h0])
    obtain ⟨F1, F2, F3⟩ := F
    rw [if_neg (by rw [hd.1]; exact n01)] at F1
    rw [if_neg (by rw [hd.2]; exact n01)] at F2
    rcases can2 (A := A) (B := B) (o := 19) hcs t2 t3 t5 t6 t11.2.1 t11.2.2.1 with ⟨hcan, c1, c2⟩ | ⟨hcan, c1, c2⟩
    case inr =>
      have z := tail A B (sameCo.of (sameC.rfl' A)) (sRun.rfl' B) (R.mono (by omega)) h64 F1 F2 F3
      rw [zlE, hc, c1, c2, zbE, zbE, zlE, zlE, if_pos rfl, if_pos rfl]
      rw [hc] at z
      exact z
    obtain ⟨A2, g1, g2, g3⟩ := c_act (nt := nt) w1 (o := 19) (tb := tb) (c := c) (by decide) (by decide) h64 hb t1 t2 t11.1 t11.2.1 t11.2.2.1 hcan
    obtain ⟨B2, h1, h2, h3⟩ := r_does (nt := nt) w2 (w := 55) (tb := tb) (c := c) (by decide) (R.2.tr R.1) h64' hb t4 t5 t11.1 t11.2.1 t11.2.2.1 t11 hcan
    have hr := act_row (W := W) T R (by omega) hb hbn hd.2 hcan
    rw [← g3, ← h3] at hr
    have z := tail A2 B2 g2 (sRun.ofw h2) (hr.mono (by omega)) (by rw [g3, act_64 (nt := nt) hb t11.1 t11.2.1 (fun h hh => (loC_in hb hh).2) hcan]; exact h64) (by rw [h2.2.1 44 (by omega) (by decide)]; exact F1) (by rw [h2.2.1 45 (by omega) (by decide)]; exact F2) (by rw [h2.2.1 47 (by omega) (by decide)]; exact F3)
    rw [zlE, hc, c1, c2, zbE, zbE, zlE, zlE, if_neg n10, if_neg n10, z4, if_pos (io_in (show i < m by omega) (by omega)), x5, hc, g1, zbE, h1, zbE]
    rw [hc] at z
    exact z
end MX
