/-! cheapest, enough. -/
section MZ
variable {d M nj nh nt : Nat} {A B : zS}
theorem grip_eq' {W : zLw} {r q : Nat → Int32} (T : ITold nj nh nt A B) (R : ∀ k, k < 40 → r k = q k) {h j : Nat} {t : Option Nat} (hh : h < nh) (hj : j < nj) (ht : ∀ k, t = some k → k < nt) : gripM W (A.1 13) (fun k => A.1 13 (24 + k)) (fun k => A.1 13 (54 + k)) r h t j = gripM W (B.1 46) (B.1 48) (B.1 50) q h t j := by
  obtain ⟨t1, t2, t3, t4, t5, t6, t7, t8, t9, t10, t11⟩ := T
  have n4 := t11.1
  have n6 := t11.2.1
  have ea : addsV (fun k => A.1 13 (54 + k)) t = addsV (B.1 50) t := by
    cases t with
    | none => rfl
    | some k => exact t10 _ (by have := ht k rfl; omega)
  unfold gripM
  dsimp only
  rw [R (28 + 2 * h) (by omega), R (28 + 2 * h + 1) (by omega), R (7 * j + 2) (by omega), ea, t9 (5 * h + 1) (by omega), t8 (6 * j + 4) (by omega)]
theorem hold_eq' {r q : Nat → Int32} (R : ∀ k, k < 40 → r k = q k) {j : Nat} (hj : j < 4) : holdM r j = holdM q j := by
  unfold holdM
  rw [R (7 * j) (by omega), R (7 * j + 1) (by omega), R (7 * j + 2) (by omega)]
theorem would2 {W : zLw} (T : ITold nj nh nt A B) (w1 : LawC A W) (w2 : LawR B W) {o w tb h : Nat} {t : Option Nat} (ho : 17 ≤ o) (ho2 : o < 40) (hw : 54 ≤ w) (R : ∀ k, k < 40 → A.1 (o + 1) k = B.1 w k) (hT : A.1 (o + 1) 64 = Int32.ofNat tb) (hT' : B.1 w 64 = Int32.ofNat tb) (hb : tb < 4) (hn : tb < nj) (hh : h < nh) (ht : ∀ k, t = some k → k < nt) (hL : gBd (B.1 46) (B.1 48) (B.1 50) (B.1 w) h t tb) :
    ∃ x A' B', f_X7_wouldOpen o (Int32.ofNat h) (toolV t) A = some (x, A') ∧ f_X12_wouldOpen w (Int32.ofNat h) (toolV t) B = some (x, B') ∧ sameC A A' ∧ sameR B B' ∧ (x = 0 ∨ x = 1) := by
  have n6 := T.2.2.2.2.2.2.2.2.2.2.2.1
  have n44 := T.2.2.2.2.2.2.2.2.2.2.2.2.1
  have ht4 : ∀ k, t = some k → k < 4 := fun k hk => by have := ht k hk; omega
  obtain ⟨A2, ga, sa⟩ := c_gripOn w1 (o := o) (h := h) (j := tb) (t := t) ho ho2 (by omega) hb ht4
  obtain ⟨B2, gb, sb⟩ := r_gripOf w2 (w := w) (h := h) (j := tb) (t := t) (by omega) hb ht4 hL
  have r1 : A2.1 (o + 1) = A.1 (o + 1) := sa.2 _ (by omega) (by omega)
  have r2 : B2.1 w = B.1 w := sb.1 _ (by omega) (by omega)
  have q1 : A2.1 (o + 1) 64 = Int32.ofNat tb := by rw [r1]; exact hT
  unfold f_X7_wouldOpen f_X12_wouldOpen
  rw [c_onTable hT, zbE, ga, zbE, c_onTable q1, zbE, c_hold hb, zbE, hT', gb, zbE, r2, hT', r_holdOf hb, zbE, r1, r2, grip_eq' T R hh hn ht, hold_eq' R hb]
  by_cases hq : gripM W (B.1 46) (B.1 48) (B.1 50) (B.1 w) h t tb < holdM (B.1 w) tb
  · rw [if_pos hq, if_pos hq]
    exact ⟨0, A2, B2, rfl, rfl, sa, sb, Or.inl rfl⟩
  · rw [if_neg hq, if_neg hq]
    exact ⟨1, A2, B2, rfl, rfl, sa, sb, Or.inr rfl⟩
theorem cheap_L {tb h : Nat} (b2 : tb < 4) (hh : h < nh) : ∀ (k t f : Nat) (best least : Int32) (A B : zS), t + k = nt → k < f → InvD 0 M nj nh nt A B → A.1 18 64 = Int32.ofNat tb →
    ((best = -1000000 ∧ least = 100) ∨ ∃ j, j < nt ∧ best = Int32.ofNat j ∧ least = B.1 50 (2 * j + 1)) →
    ∃ r A' B', f_X11_cheapest_L43 (fun q28 _ _ S27 => some (q28, S27)) (Int32.ofNat h) f best least (Int32.ofNat t) A = some (r, A') ∧ f_X12_cheapest_L45 (fun q29 _ S28 => some (q29, S28)) (Int32.ofNat h) f best (Int32.ofNat t) B = some (r, B') ∧ Inv (M + 1000) A' B' := by
  intro k
  induction k with
  | zero =>
    intro t f best least A B hi hf H b3 hx
    obtain ⟨f, rfl⟩ : ∃ g, f = g + 1 := ⟨f - 1, by omega⟩
    have hi : t = nt := by omega
    subst hi
    obtain ⟨t1, t2, t3, t4, t5, t6, t7, t8, t9, t10, t11⟩ := H.told
    unfold f_X11_cheapest_L43 f_X12_cheapest_L45
    rw [t3, t6, if_pos (Int32.le_refl _), if_pos (Int32.le_refl _)]
    exact ⟨best, A, B, rfl, rfl, H.sim⟩
  | succ k ih =>
    intro t f best least A B hi hf H b3 hx
    obtain ⟨f, rfl⟩ : ∃ g, f = g + 1 := ⟨f - 1, by omega⟩
    obtain ⟨t1, t2, t3, t4, t5, t6, t7, t8, t9, t10, t11⟩ := H.told
    have n6 := t11.2.1
    have n44 := t11.2.2.1
    have b4 : B.1 54 64 = Int32.ofNat tb := by rw [← H.row.1.pl (by omega)]; exact b3
    have hlt : ¬ Int32.ofNat nt ≤ Int32.ofNat t := fun q => by have := (io_le (by omega) (by omega)).mp q; omega
    obtain ⟨W, w1, w2⟩ := H.law
    obtain ⟨x, A', B', e1, e2, sa, sb, hx01⟩ := would2 (t := some t) H.told w1 w2 (o := 17) (w := 54) (h := h) (by decide) (by decide) (by decide) H.row.1.1 b3 b4 b2 (tbn t11 H.row.2 b3 b2 (by omega)) hh (fun k hk => by cases hk; omega) (gBd_row t11 (H.row.2.tr H.row.1) b4 b2 hh (fun k hk => by cases hk; omega))
    have hA : obsC A A' := obsC_same sa H.longC
    have hB : obsR B B' := obsR_same sb H.longR
    have e1' : f_X7_wouldOpen 17 (Int32.ofNat h) (Int32.ofNat t) A = some (x, A') := e1
    have e2' : f_X12_wouldOpen 54 (Int32.ofNat h) (Int32.ofNat t) B = some (x, B') := e2
    have b50 : B'.1 50 = B.1 50 := sb.1 50 (by decide) (by decide)
    have a18 : A'.1 18 = A.1 18 := sa.2 18 (by decide) (by decide)
    have ct := (t11.2.2.2.2.2.2.2 t (by omega)).2
    unfold bd at ct
    have e99 : (100 : Int32).toInt = 100 := by decide
    unfold f_X11_cheapest_L43 f_X12_cheapest_L45
    rw [t3, t6, if_neg hlt, if_neg hlt, c_item2_1 (by omega), zbE, t10 (2 * t + 1) (by omega), e2', zbE]
    simp only [zlE, io_sc]
    have take : ∃ r A'' B'', f_X11_cheapest_L43 (fun q28 _ _ S27 => some (q28, S27)) (Int32.ofNat h) f (Int32.ofNat t) (B.1 50 (2 * t + 1)) (Int32.ofNat (t + 1)) A' = some (r, A'') ∧ f_X12_cheapest_L45 (fun q29 _ S28 => some (q29, S28)) (Int32.ofNat h) f (Int32.ofNat t) (Int32.ofNat (t + 1)) B' = some (r, B'') ∧ Inv (M + 1000) A'' B'' :=
      ih (t + 1) f _ _ A' B' (by omega) (by omega) (H.obs hA hB) (by rw [a18]; exact b3) (Or.inr ⟨t, by omega, rfl, by rw [b50]⟩)
    rcases hx with ⟨rfl, rfl⟩ | ⟨j, hj, rfl, rfl⟩
    · have q1 : ¬ (100 : Int32) ≤ B.1 50 (2 * t + 1) := fun q => by rw [Int32.le_iff_toInt_le] at q; omega
      rw [if_neg q1, e1', zbE]
      rcases hx01 with rfl | rfl
      · rw [if_pos rfl, if_pos rfl]
        exact ih (t + 1) f _ _ A' B' (by omega) (by omega) (H.obs hA hB) (by rw [a18]; exact b3) (Or.inl ⟨rfl, rfl⟩)
      · rw [if_neg n10, if_neg n10, if_pos rfl]
        exact take
    · have nH : ¬ Int32.ofNat j = -1000000 := fun q => by
        have := congrArg Int32.toInt q
        rw [ti_nat (by omega)] at this
        have e : (-1000000 : Int32).toInt = -1000000 := by decide
        omega
      have it : ia_in (2 * Int32.ofNat t + 1) 8 = true := by simp (disch := omega) only [ix_m2, ix_p1, io_in]
      have ij : ia_in (2 * Int32.ofNat j + 1) 8 = true := by simp (disch := omega) only [ix_m2, ix_p1, io_in]
      have c1 : (2 * Int32.ofNat t + 1).toNatClampNeg = 2 * t + 1 := by simp (disch := omega) only [ix_m2, ix_p1, io_cl]
      have c2 : (2 * Int32.ofNat j + 1).toNatClampNeg = 2 * j + 1 := by simp (disch := omega) only [ix_m2, ix_p1, io_cl]
      rw [if_neg nH, if_pos it, if_pos ij, c1, c2, b50]
      by_cases hle : B.1 50 (2 * j + 1) ≤ B.1 50 (2 * t + 1)
      · have eR : (if x = 0 then f_X12_cheapest_L45 (fun q29 _ S28 => some (q29, S28)) (Int32.ofNat h) f (Int32.ofNat j) (Int32.ofNat (t + 1)) B' else (if B.1 50 (2 * j + 1) ≤ B.1 50 (2 * t + 1) then f_X12_cheapest_L45 (fun q29 _ S28 => some (q29, S28)) (Int32.ofNat h) f (Int32.ofNat j) (Int32.ofNat (t + 1)) B' else f_X12_cheapest_L45 (fun q29 _ S28 => some (q29, S28)) (Int32.ofNat h) f (Int32.ofNat t) (Int32.ofNat (t + 1)) B')) = f_X12_cheapest_L45 (fun q29 _ S28 => some (q29, S28)) (Int32.ofNat h) f (Int32.ofNat j) (Int32.ofNat (t + 1)) B' := by
          rw [if_pos hle]
          split <;> rfl
        rw [if_pos hle, eR]
        exact ih (t + 1) f _ _ A B' (by omega) (by omega) (H.obs H.refl hB) b3 (Or.inr ⟨j, hj, rfl, by rw [b50]⟩)
      · rw [if_neg hle, e1', zbE, if_neg hle]
        rcases hx01 with rfl | rfl
        · rw [if_pos rfl, if_pos rfl]
          exact ih (t + 1) f _ _ A' B' (by omega) (by omega) (H.obs hA hB) (by rw [a18]; exact b3) (Or.inr ⟨j, hj, rfl, by rw [b50]⟩)
        · rw [if_neg n10, if_neg n10]
          exact take
theorem op_cheapest (H : InvD 0 M nj nh nt A B) (hM : M < 900000) (v : Int32) : Sim M (f_X11_cheapest v A) (f_X12_cheapest v B) := by
  have H0 := H.thr 0
  unfold f_X11_cheapest f_X12_cheapest
  rw [zlE]
  generalize sV B 41 0 0 = B0 at H0 ⊢
  obtain ⟨t1, t2, t3, t4, t5, t6, t7, t8, t9, t10, t11⟩ := H0.told
  have n6 := t11.2.1
  have n44 := t11.2.2.1
  rcases isHand2 t2 t5 (by omega) v with ⟨h, hh, rfl, e2, e3⟩ | ⟨e2, e3⟩
  case inr =>
    rw [e2, e3, zbE, zbE, if_pos rfl, if_pos rfl]
    exact Sim.no H0 _
  rw [e2, e3, zbE, zbE, if_neg n10, if_neg n10]
  rcases shut2 H0 with ⟨tb, b1, b2, b3, b4, b5, b6, e4, e5, -⟩ | ⟨e4, e5, -⟩
  case inr =>
    rw [e4, e5, zbE, zbE, if_neg n00, if_neg n00]
    exact Sim.no H0 _
  obtain ⟨W, w1, w2⟩ := H0.law
  obtain ⟨x, A', B', f1, f2, sa, sb, hx01⟩ := would2 (t := none) H0.told w1 w2 (o := 17) (w := 54) (h := h) (by decide) (by decide) (by decide) H0.row.1.1 b3 b4 b2 (by first | omega | exact tbn t11 H0.row.2 b3 b2 (by omega)) (by omega) (fun k hk => by cases hk) (gBd_row t11 (H0.row.2.tr H0.row.1) b4 b2 hh (fun k hk => by cases hk))
  have f1' : f_X7_wouldOpen 17 (Int32.ofNat h) (-1) A = some (x, A') := f1
  have f2' : f_X12_wouldOpen 54 (Int32.ofNat h) (-1) B0 = some (x, B') := f2
  rw [e4, e5, zbE, zbE, if_pos n10, if_pos n10, f1', f2', zbE, zbE]
  have H1 := H0.obs (obsC_same sa H0.longC) (obsR_same sb H0.longR)
  rcases hx01 with rfl | rfl
  · rw [if_pos rfl, if_pos rfl]
    obtain ⟨r, A'', B'', z1, z2, z3⟩ := cheap_L (M := M) b2 hh nt 0 zN (-1000000) 100 A' B' (by omega) (by unfold zN; omega) H1 (by rw [sa.2 18 (by decide) (by decide)]; exact b3) (Or.inl ⟨rfl, rfl⟩)
    exact ⟨r, A'', B'', z1, z2, z3⟩
  · rw [if_neg n10, if_neg n10]
    exact Sim.no H1 _
theorem warm_0 {jT : Nat → Int32} {M' tb : Nat} {r : Nat → Int32} (H : RowOk jT nj M' r) (hb : tb < 4) (hn : tb < nj) (hc : r (7 * tb + 6) = 0) : (∀ k, k < 65 → warmM jT tb 0 r k = r k) := by
  obtain ⟨a0, a1, a2, a3, a5, a6, a7⟩ := H.2.1 tb hb
  have z0 : (0 : Int32) / 10 = 0 := by decide
  have z1 : (0 : Int32) / 5 = 0 := by decide
  have hle : r (7 * tb + 3) + 0 ≤ jT (6 * tb + 5) := by
    rw [Int32.add_zero, Int32.le_iff_toInt_le]
    exact a7 hc hn
  intro k hk
  unfold warmM
  rw [if_pos hle, um_ne (by omega)]
  unfold warm3 um
  rw [z0, z1]
  dsimp only
  by_cases h1 : k = 7 * tb + 1
  · subst h1
    rw [ru_at, ru_ne (by omega), ru_ne (by omega)]
    exact m0_id a1.1
  · rw [ru_ne h1]
    by_cases h2 : k = 7 * tb + 2
    · subst h2
      rw [ru_at, ru_ne (by omega)]
      exact m0_id a2.1
    · rw [ru_ne h2]
      by_cases h3 : k = 7 * tb + 3
      · subst h3
        rw [ru_at, Int32.add_zero]
      · rw [ru_ne h3]
theorem warm_5 {jT : Nat → Int32} {tb : Nat} (hb : tb < 4) (n : Int32) (r : Nat → Int32) : warmM jT tb n r (7 * tb + 5) = r (7 * tb + 5) := by
  unfold warmM warm3
  split <;> simp (disch := omega) only [um_ne, ru_ne]
theorem enough_L {tb h : Nat} {t : Option Nat} (hMx : M < 900000) (b1 : tb < nj) (b2 : tb < 4) (hh : h < nh) (ht : ∀ k, t = some k → k < nt) : ∀ (k n f : Nat) (A B : zS), n + k = 61 → k < f → InvD 0 M nj nh nt A B → A.1 18 64 = Int32.ofNat tb → A.1 18 (7 * tb + 5) = 0 → A.1 18 (7 * tb + 6) = 0 →
    ∃ r A' B', f_X11_enough_L27 (fun _ S31 => some ((-1), S31)) (Int32.ofNat h) (toolV t) f (Int32.ofNat n) A = some (r, A') ∧ f_X12_enough_L32 (fun _ S35 => some ((-1), S35)) (Int32.ofNat h) (toolV t) f (Int32.ofNat n) B = some (r, B') ∧ Inv (M + 1000) A' B' := by
  intro k
  induction k with
  | zero =>
    intro n f A B hi hf H b3 b5 b6
    obtain ⟨f, rfl⟩ : ∃ g, f = g + 1 := ⟨f - 1, by omega⟩
    have hi : n = 61 := by omega
    subst hi
    have q : (60 : Int32) < Int32.ofNat 61 := by decide
    unfold f_X11_enough_L27 f_X12_enough_L32
    rw [if_pos q, if_pos q]
    exact ⟨-1, A, B, rfl, rfl, H.sim⟩
  | succ k ih =>
    intro n f A B hi hf H b3 b5 b6
    obtain ⟨f, rfl⟩ : ∃ g, f = g + 1 := ⟨f - 1, by omega⟩
    obtain ⟨t1, t2, t3, t4, t5, t6, t7, t8, t9, t10, t11⟩ := H.told
    have n6 := t11.2.1
    have n44 := t11.2.2.1
    have q60 : ¬ (60 : Int32) < Int32.ofNat n := fun q => by have := (io_lt (a := 60) (by omega) (by omega)).mp q; omega
    have n01 : ¬ (0 : Int32) = 1 := by decide
    unfold f_X11_enough_L27 f_X12_enough_L32
    rw [if_neg q60, if_neg q60, c_take, zbE, sC_eq, r_copyrr (by decide), zbE]
    -- the scenes
    have A20 : ∀ k, k < 66 → (sR A 20 (cpy (A.1 18) (A.1 20) 0 0 66)).1 20 k = A.1 18 k := fun k hk => by rw [sR_at]; exact cpy_0 hk
    have B55 : ∀ k, k < 66 → (sR B 55 (cpy (B.1 54) (B.1 55) 0 0 66)).1 55 k = B.1 54 k := fun k hk => by rw [sR_at]; exact cpy_0 hk
    have A13 : (sR A 20 (cpy (A.1 18) (A.1 20) 0 0 66)).1 13 = A.1 13 := sR_ne _ _ (by decide)
    have B46 : (sR B 55 (cpy (B.1 54) (B.1 55) 0 0 66)).1 46 = B.1 46 := sR_ne _ _ (by decide)
    have sA : sameCo 19 A (sR A 20 (cpy (A.1 18) (A.1 20) 0 0 66)) := sameCo.sR (sameC.rfl' A) _
    have sB : sRun B (sR B 55 (cpy (B.1 54) (B.1 55) 0 0 66)) := sRun.ofw (sameRw.sR (sameR.rfl' B) (by decide) _)
    have R0 : IRow (B.1 46) nj M ((sR A 20 (cpy (A.1 18) (A.1 20) 0 0 66)).1 20) ((sR B 55 (cpy (B.1 54) (B.1 55) 0 0 66)).1 55) := H.row.cg A20 B55
    have e24 : (0 : Nat) + 18 + 1 = 19 := rfl
    generalize sR A 20 (cpy (A.1 18) (A.1 20) 0 0 66) = A1 at A20 A13 sA R0 ⊢
    generalize sR B 55 (cpy (B.1 54) (B.1 55) 0 0 66) = B1 at B55 B46 sB R0 ⊢
    have h64 : A1.1 20 64 = Int32.ofNat tb := by rw [A20 _ (by omega)]; exact b3
    have h64' : B1.1 55 64 = Int32.ofNat tb := by rw [← R0.1.pl (by omega)]; exact h64
    have c5 : A1.1 20 (7 * tb + 5) = 0 := by rw [A20 _ (by omega)]; exact b5
    have c6 : A1.1 20 (7 * tb + 6) = 0 := by rw [A20 _ (by omega)]; exact b6
    rw [c_warm (o := 19) (by decide) h64 b2, zbE]
    have sA2 : sameCo 19 A (sR A1 20 (warmM (A1.1 13) tb (Int32.ofNat n) (A1.1 20))) := sA.tr (sameCo.sR (sameC.rfl' A1) _)
    have wc : warmM (A1.1 13) tb (Int32.ofNat n) (A1.1 20) = warmM (B.1 46) tb (Int32.ofNat n) (A1.1 20) := by rw [A13]; exact warm_cg (t8 _ (by omega)) _ _
    rw [wc] at sA2 ⊢
    have A20' : (sR A1 20 (warmM (B.1 46) tb (Int32.ofNat n) (A1.1 20))).1 20 = warmM (B.1 46) tb (Int32.ofNat n) (A1.1 20) := sR_at _ _ _
    generalize sR A1 20 (warmM (B.1 46) tb (Int32.ofNat n) (A1.1 20)) = A2 at sA2 A20' ⊢
    have g64 : A2.1 20 64 = Int32.ofNat tb := by rw [A20', warm_64 b2]; exact h64
    rw [c_lid (o := 19) (x := 6) (c := 6) g64 b2 (by omega) rfl, zbE]
    -- the rest, with the reference's row
    have rest : ∀ B2 : zS, sRun B B2 → (∀ k, k < 40 → A2.1 20 k = B2.1 55 k) → B2.1 55 64 = Int32.ofNat tb →
        ∃ r A' B', (if ¬ A2.1 20 (7 * tb + 6) = 0 then f_X11_enough_L27 (fun _ S31 => some ((-1), S31)) (Int32.ofNat h) (toolV t) f (Int32.ofNat (n + 1)) A2 else zb (f_X7_wouldOpen 19 (Int32.ofNat h) (toolV t) A2) fun r28 S27 => if r28 = 0 then f_X11_enough_L27 (fun _ S31 => some ((-1), S31)) (Int32.ofNat h) (toolV t) f (Int32.ofNat (n + 1)) S27 else some (Int32.ofNat n, S27)) = some (r, A') ∧
        (zb (f_X12_isDone 55 B2) fun r22 S21 => if ¬ r22 = 0 then f_X12_enough_L32 (fun _ S35 => some ((-1), S35)) (Int32.ofNat h) (toolV t) f (Int32.ofNat (n + 1)) S21 else zb (f_X12_wouldOpen 55 (Int32.ofNat h) (toolV t) S21) fun r29 S28 => if r29 = 0 then f_X12_enough_L32 (fun _ S35 => some ((-1), S35)) (Int32.ofNat h) (toolV t) f (Int32.ofNat (n + 1)) S28 else some (Int32.ofNat n, S28)) = some (r, B') ∧ Inv (M + 1000) A' B' := by
      intro B2 sB2 hR hB64
      have z5 : B2.1 55 (7 * tb + 5) = 0 := by rw [← hR _ (by omega), A20', warm_5 b2]; exact c5
      rw [r_isDone (w := 55) hB64 b2, zbE, z5, ← hR (7 * tb + 6) (by omega)]
      have oA := sA2.obs (by omega) H.longC
      have oB := sB2.obs H.longR
      have H2 := H.obs oA oB
      have a18 : A2.1 18 = A.1 18 := sA2.2 18 (by decide) (by decide) (by decide)
      have c6' : A2.1 20 (7 * tb + 6) = 0 ∨ A2.1 20 (7 * tb + 6) = 1 := by
        rw [A20']
        unfold warmM
        split
        · left
          unfold warm3
          simp (disch := omega) only [um_ne]
          exact c6
        · right
          rw [um_ne (by omega), ru_at]
      rcases c6' with c6' | c6'
      · rw [c6', if_neg n00, if_neg (show ¬ ((0 : Int32) = 1 ∨ (0 : Int32) = 1) from fun q => q.elim n01 n01), if_neg n00]
        obtain ⟨W, w1, w2⟩ := H2.law
        obtain ⟨x, A', B', f1, f2, sa, sb, hx01⟩ := would2 (t := t) H2.told w1 w2 (o := 19) (w := 55) (h := h) (by decide) (by decide) (by decide) hR g64 hB64 b2 (by omega) (by omega) (fun k hk => by have := ht k hk; omega) (gBd_cg (by omega) b2 hR (by
          have e46 : B2.1 46 = B.1 46 := sB2.1 46 (by decide) (by decide) (by decide)
          have e48 : B2.1 48 = B.1 48 := sB2.1 48 (by decide) (by decide) (by decide)
          have e50 : B2.1 50 = B.1 50 := sB2.1 50 (by decide) (by decide) (by decide)
          rw [e46, e48, e50, A20']
          exact gBd_of t11 (R0.2.warm (by omega) b2 b1 (t11.2.2.2.2.2.1 tb b1).2.2.2.2.2 c6 (n := Int32.ofNat n) ⟨by rw [ti_nat (by omega)]; omega, by rw [ti_nat (by omega)]; omega⟩) hh b1 ht))
        have H3 := H2.obs (obsC_same sa H2.longC) (obsR_same sb H2.longR)
        rw [f1, f2, zbE, zbE]
        rcases hx01 with rfl | rfl
        · rw [if_pos rfl, if_pos rfl]
          have a18' : A'.1 18 = A.1 18 := (sa.2 18 (by decide) (by decide)).trans a18
          exact ih (n + 1) f A' B' (by omega) (by omega) H3 (by rw [a18']; exact b3) (by rw [a18']; exact b5) (by rw [a18']; exact b6)
        · rw [if_neg n10, if_neg n10]
          exact ⟨Int32.ofNat n, A', B', rfl, rfl, H3.sim⟩
      · rw [c6', if_pos n10, if_pos (Or.inr rfl), if_pos n10]
        exact ih (n + 1) f A2 B2 (by omega) (by omega) H2 (by rw [a18]; exact b3) (by rw [a18]; exact b5) (by rw [a18]; exact b6)
    simp only [zlE, io_sc]
    by_cases hz : n = 0
    · subst hz
      rw [if_pos (show Int32.ofNat 0 ≤ 0 by decide)]
      have w0 := warm_0 R0.2 b2 b1 c6
      exact rest B1 sB (fun k hk => by rw [A20']; exact (w0 k (by omega)).trans (R0.1.1 k hk)) h64'
    · have qz : ¬ Int32.ofNat n ≤ 0 := fun q => by have := (io_le (b := 0) (by omega) (by omega)).mp q; omega
      rw [if_neg qz, r_heats (w := 55) (by decide) h64' b2, zbE, B46]
      have R1 := R0.1.warm (jT := B.1 46) (tb := tb) b2 (Int32.ofNat n)
      refine rest _ (sB.tr (sRun.ofw (sameRw.sR (sameR.rfl' B1) (by decide) _))) (fun k hk => ?_) ?_
      · rw [A20', sR_at]; exact R1.1 k hk
      · rw [sR_at, ← R1.pl (by omega), ← A20']; exact g64
theorem op_enough (H : InvD 0 M nj nh nt A B) (hM : M < 900000) (v1 v2 : Int32) : Sim M (f_X11_enough v1 v2 A) (f_X12_enough v1 v2 B) := by
  have H0 := H.thr 0
  unfold f_X11_enough f_X12_enough
  rw [zlE]
  generalize sV B 41 0 0 = B0 at H0 ⊢
  obtain ⟨t1, t2, t3, t4, t5, t6, t7, t8, t9, t10, t11⟩ := H0.told
  have n6 := t11.2.1
  have n44 := t11.2.2.1
  rcases isHand2 t2 t5 (by omega) v1 with ⟨h, hh, rfl, e2, e3⟩ | ⟨e2, e3⟩
  case inr =>
    rw [e2, e3, zbE, zbE, if_pos rfl, if_pos rfl]
    exact Sim.no H0 _
  rw [e2, e3, zbE, zbE, if_neg n10, if_neg n10]
  rcases isTool2 t3 t6 (by omega) v2 with ⟨t, ht, rfl, e4, e5⟩ | ⟨e4, e5⟩
  case inr =>
    rw [e4, e5, zbE, zbE, if_pos rfl, if_pos rfl]
    exact Sim.no H0 _
  rw [e4, e5, zbE, zbE, if_neg n10, if_neg n10]
  rcases shut2 H0 with ⟨tb, b1, b2, b3, b4, b5, b6, e6, e7, -⟩ | ⟨e6, e7, -⟩
  case inr =>
    rw [e6, e7, zbE, zbE, if_neg n00, if_neg n00]
    exact Sim.no H0 _
  rw [e6, e7, zbE, zbE, if_pos n10, if_pos n10]
  obtain ⟨r, A', B', z1, z2, z3⟩ := enough_L (M := M) (t := t) hM b1 b2 hh ht 61 0 zN A B0 (by omega) (by unfold zN; omega) H0 b3 b5 b6
  exact ⟨r, A', B', z1, z2, z3⟩
end MZ
