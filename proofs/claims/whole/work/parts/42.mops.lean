/-! run, best. -/
section MY
variable {d M nj nh nt : Nat} {A B : zS}
theorem plan2 (H : InvD 0 M nj nh nt A B) (hM : M < 900000) {tb p np : Nat} (b1 : tb < nj) (b2 : tb < 4) (b3 : A.1 18 64 = Int32.ofNat tb) (b5 : A.1 18 (7 * tb + 5) = 0) (b6 : A.1 18 (7 * tb + 6) = 0) (p1 : A.1 0 15 = Int32.ofNat np) (p0 : np ≤ 4) (hp : p < np) :
    ∃ a m st e A' B', A.2.1 40 p = .ref a ∧ 64 ≤ a ∧ a < A.2.2.2 ∧ m ≤ 16 ∧ e ≤ m ∧ A.2.2.1 a = m ∧ (∀ i, i < m → A.1 a i = st i) ∧ f_X11_rehearse a A = some (Int32.ofNat e, A') ∧ f_X12_goPlan (Int32.ofNat p) B = some ((), B') ∧ sameCo 19 A A' ∧ sRun B B' ∧ IRow (B.1 46) nj (M + 1000) (A'.1 20) (B'.1 55) ∧ A'.1 20 64 = Int32.ofNat tb ∧ Flg tb e st A' B' ∧ B'.1 41 46 = A'.1 20 65 - A.1 18 65 := by
  have H' := H
  obtain ⟨u, -, -, -, -, ⟨np', q0, q1, q2, q3⟩, -⟩ := H
  have : np = np' := (io_eq (by omega) (by omega)).mp (p1.symm.trans q1)
  subst this
  obtain ⟨a, m, z1, z2, z3, z4, z5, z6, z7, z8⟩ := q3 p hp
  obtain ⟨W, w1, w2⟩ := H'.law
  have sA : sameCo 19 A (sR A 20 (cpy (A.1 18) (A.1 20) 0 0 66)) := sameCo.sR (sameC.rfl' A) _
  have sB : sRun B (sV (sV (sV (sR B 55 (cpy (B.1 54) (B.1 55) 0 0 66)) 41 44 (-1)) 41 45 (-1)) 41 47 0) := ((sRun.ofw (sameRw.sR (sameR.rfl' B) (by decide) _)).tr (sRun.fld (by omega) _)).tr ((sRun.fld (by omega) _).tr (sRun.fld (by omega) _))
  have P0 : PlB nj nh nt p a m (A.1 a) W A B := ⟨H'.told, w1, w2, z6, fun i _ => rfl, z7, fun i hi => (z8 i hi).1.symm⟩
  have B55 : (sV (sV (sV (sR B 55 (cpy (B.1 54) (B.1 55) 0 0 66)) 41 44 (-1)) 41 45 (-1)) 41 47 0).1 55 = cpy (B.1 54) (B.1 55) 0 0 66 := by
    simp (disch := decide) only [sV_eq, sR_ne, sR_at]
  have f4x : ∀ k, k = 44 ∨ k = 45 → (sV (sV (sV (sR B 55 (cpy (B.1 54) (B.1 55) 0 0 66)) 41 44 (-1)) 41 45 (-1)) 41 47 0).1 41 k = -1 := by
    intro k hk
    rcases hk with rfl | rfl <;> simp (disch := decide) only [sV_eq, sR_ne, sR_at, ru_ne, ru_at]
  have f47 : (sV (sV (sV (sR B 55 (cpy (B.1 54) (B.1 55) 0 0 66)) 41 44 (-1)) 41 45 (-1)) 41 47 0).1 41 47 = 0 := by
    simp (disch := decide) only [sV_eq, sR_at, ru_at]
  have n01 : ¬ (0 : Int32) = 1 := by decide
  have e1 : f_X11_rehearse a A = f_X11_rehearse_L15 a (fun q26 _ S25 => some (q26, S25)) zN 0 0 (sR A 20 (cpy (A.1 18) (A.1 20) 0 0 66)) := by
    unfold f_X11_rehearse
    rw [c_take, zbE, sC_eq]
  have e2 : f_X12_goPlan (Int32.ofNat p) B = f_X12_goPlan_L29 (fun (q53 : Int32) (S52 : zS) => some ((), sV S52 41 46 ((S52.1 55 65) - (S52.1 54 65)))) (Int32.ofNat p) zN 0 (sV (sV (sV (sR B 55 (cpy (B.1 54) (B.1 55) 0 0 66)) 41 44 (-1)) 41 45 (-1)) 41 47 0) := by
    unfold f_X12_goPlan
    rw [r_copyrr (by decide), zbE]
    simp only [zlE]
  have sBq := sB.1 46 (by decide) (by decide) (by decide)
  generalize sV (sV (sV (sR B 55 (cpy (B.1 54) (B.1 55) 0 0 66)) 41 44 (-1)) 41 45 (-1)) 41 47 0 = B0 at sB B55 f4x f47 e2 sBq
  have A20 : (sR A 20 (cpy (A.1 18) (A.1 20) 0 0 66)).1 20 = cpy (A.1 18) (A.1 20) 0 0 66 := sR_at _ _ _
  generalize sR A 20 (cpy (A.1 18) (A.1 20) 0 0 66) = A0 at sA e1 A20
  have R0 : IRow (B0.1 46) nj (M + 60 * 0) (A0.1 20) (B0.1 55) := by
    rw [sBq, A20, B55]
    exact H'.row.cg (fun k hk => cpy_0 hk) (fun k hk => cpy_0 hk)
  have A20' : ∀ k, k < 66 → A0.1 20 k = A.1 18 k := fun k hk => by rw [A20]; exact cpy_0 hk
  obtain ⟨e, A', B', r1, r2, r3, r4, r5, r6, r7, r8⟩ := plan_L (M := M) (ex := fun (q53 : Int32) (S52 : zS) => some ((), sV S52 41 46 ((S52.1 55 65) - (S52.1 54 65)))) (by omega) z2 z5 (fun i hi => (z8 i hi).2) hM b2 b1 m 0 zN A0 B0 (by omega) (by unfold zN; omega) (P0.of z2 sA sB) R0 (by rw [A20' _ (by omega)]; exact b3) (by
    refine ⟨?_, ?_, ?_⟩
    · rw [f4x 44 (by omega), A20' _ (by omega), b5, if_neg n01]
    · rw [f4x 45 (by omega), A20' _ (by omega), b6, if_neg n01]
    · rw [f47]; rfl)
  rw [sBq] at r6
  have sB' := sB.tr r5
  have f46 : ∀ k, k ≠ 46 → (sV B' 41 46 ((B'.1 55 65) - (B'.1 54 65))).1 41 k = B'.1 41 k := fun k hk => by rw [sV_eq, sR_at, ru_ne hk]
  refine ⟨a, m, A.1 a, e, A', sV B' 41 46 ((B'.1 55 65) - (B'.1 54 65)), z1, z2, z3, z5, r1, z6, fun _ _ => rfl, e1.trans r2, e2.trans r3, sA.tr r4, sB'.tr (sRun.fld (by omega) _), ?_, r7, ?_, ?_⟩
  · rw [show (sV B' 41 46 ((B'.1 55 65) - (B'.1 54 65))).1 55 = B'.1 55 by rw [sV_eq, sR_ne _ _ (by decide)]]
    exact r6
  · obtain ⟨g1, g2, g3⟩ := r8
    exact ⟨(f46 44 (by decide)).trans g1, (f46 45 (by decide)).trans g2, (f46 47 (by decide)).trans g3⟩
  · rw [sV_eq, sR_at, ru_at, r6.1.pl (by omega), sB'.1 54 (by decide) (by decide) (by decide), H'.row.1.pl (k := 65) (by omega)]
theorem op_run (H : InvD 0 M nj nh nt A B) (hM : M < 900000) (v v2 : Int32) : Sim M (f_X11_run v v2 A) (f_X12_run v v2 B) := by
  have H0 := H.thr 0
  unfold f_X11_run f_X12_run f_X11_stepsOf
  rw [zlE]
  generalize sV B 41 0 0 = B0 at H0 ⊢
  have H0' := H0
  obtain ⟨u, h1, h2, h3, h4, ⟨np, p0, p1, p2, p3⟩, -⟩ := H0
  have e0 : (0 : Int64).toInt = 0 := by decide
  have e22 : (2 : Int64).toInt = 2 := by decide
  have f22 : (2 : Int32).toInt = 2 := by decide
  have el : ((Int32.ofNat np - 1).toInt64).toInt = (np : Int) - 1 := by
    rw [Int32.toInt_toInt64, ti_sub (by rw [ti_nat (by omega), ti_1]; omega), ti_nat (by omega), ti_1]
  rw [p1]
  rcases idx v np (by omega) with ⟨p, hp, rfl⟩ | h
  case inr =>
    have q3 : ¬ (0 ≤ v.toInt ∧ v.toInt ≤ (np : Int) - 1) := by omega
    have eS : (if v < 0 then some (Value.null, A) else if Int32.ofNat np ≤ v then some (.null, A) else if ia_in v 4 = true then zkr (A.2.1 40 v.toNatClampNeg) (some (.null, A)) fun a4 => if 64 ≤ a4 ∧ a4 < A.2.2.2 then some (.ref a4, A) else none else none) = some (.null, A) := by
      by_cases h0 : v < 0
      · rw [if_pos h0]
      · rw [if_neg h0, if_pos ((i_le0 (by omega)).mpr (by rw [i_lt0] at h0; omega))]
    rw [eS, zbE]
    show Sim M (some (-1, A)) _
    rcases shut2 H0' with ⟨tb, b1, b2, b3, b4, b5, b6, e2, e3, -⟩ | ⟨e2, e3, -⟩
    · rw [e3, zbE, if_neg n10, p2, r_isIn, e0, el, zbE, if_neg q3, if_pos rfl]
      exact Sim.no H0' _
    · rw [e3, zbE, if_pos rfl]
      exact Sim.no H0' _
  have q0 : ¬ Int32.ofNat p < 0 := fun q => by rw [i_lt0, ti_nat (by omega)] at q; omega
  have q1 : ¬ Int32.ofNat np ≤ Int32.ofNat p := fun q => by rw [io_le (by omega) (by omega)] at q; omega
  have q3 : 0 ≤ (Int32.ofNat p).toInt ∧ (Int32.ofNat p).toInt ≤ (np : Int) - 1 := by rw [ti_nat (by omega)]; omega
  obtain ⟨a, m, z1, z2, z3, z4, z5, z6, z7, z8⟩ := p3 p hp
  rw [if_neg q0, if_neg q1, if_pos (io_in (by omega) (by omega)), io_cl (by omega), z1]
  show Sim M (zb (if 64 ≤ a ∧ a < A.2.2.2 then _ else none) _) _
  rw [if_pos ⟨z2, z3⟩, zbE]
  show Sim M (if 64 ≤ a ∧ a < A.2.2.2 then _ else none) _
  rw [if_pos ⟨z2, z3⟩, if_rng, ti_0, f22]
  rcases shut2 H0' with ⟨tb, b1, b2, b3, b4, b5, b6, e2, e3, -⟩ | ⟨e2, e3, -⟩
  case inr =>
    rw [e2, e3, zbE, zbE, if_neg n00, if_pos rfl]
    split
    · exact Sim.no H0' _
    · exact Sim.no H0' _
  rw [e2, e3, zbE, zbE, if_pos n10, if_neg n10, p2, r_isIn, e0, el, zbE, if_pos q3, if_neg n10, r_isIn, e0, e22, zbE]
  by_cases hv : 0 ≤ v2.toInt ∧ v2.toInt ≤ 2
  case neg =>
    rw [if_neg hv, if_neg hv, if_neg n00]
    exact Sim.no H0' _
  rw [if_pos hv, if_pos hv, if_pos n10]
  obtain ⟨a', m', st, e, A', B', y1, y2, y3, y4, y5, y6, y7, y8, y9, y10, y11, y12, y13, ⟨F1, F2, F3⟩, y15⟩ := plan2 H0' hM b1 b2 b3 b5 b6 p1 p0 hp
  rw [z1] at y1
  cases y1
  rw [y8, y9, zbE, zbE]
  have hAo := y10.obs (by omega) H0'.longC
  have hBo := y11.obs H0'.longR
  have hc : v2 = 0 ∨ v2 = 1 ∨ v2 = 2 := by
    have : v2.toInt = 0 ∨ v2.toInt = 1 ∨ v2.toInt = 2 := by omega
    rcases this with h | h | h
    · exact Or.inl (ti_inj h)
    · exact Or.inr (Or.inl (ti_inj h))
    · exact Or.inr (Or.inr (ti_inj h))
  simp only [zlE]
  rcases hc with rfl | rfl | rfl
  · have n02 : ¬ (0 : Int32) = 2 := by decide
    rw [if_pos n02, if_neg n00, if_neg n00, c_lid (o := 19) (x := 5) (c := 5) y13 b2 (by omega) rfl, zbE]
    by_cases ho : A'.1 20 (7 * tb + 5) = 1
    · rw [if_neg (fun q => q ho)]
      rw [if_pos ho] at F1
      exact sim_obs H0' hAo hBo F1.symm
    · rw [if_pos ho]
      rw [if_neg ho] at F1
      exact sim_obs H0' hAo hBo F1.symm
  · have n12 : ¬ (1 : Int32) = 2 := by decide
    have n11 : ¬ ¬ (1 : Int32) = 1 := by decide
    rw [if_pos n12, if_pos n10, if_pos n10, if_neg n11, c_lid (o := 19) (x := 6) (c := 6) y13 b2 (by omega) rfl, zbE]
    by_cases ho : A'.1 20 (7 * tb + 6) = 1
    · rw [if_neg (fun q => q ho)]
      rw [if_pos ho] at F2
      exact sim_obs H0' hAo hBo F2.symm
    · rw [if_pos ho]
      rw [if_neg ho] at F2
      exact sim_obs H0' hAo hBo F2.symm
  · have n22 : ¬ ¬ (2 : Int32) = 2 := by decide
    have n20 : ¬ (2 : Int32) = 0 := by decide
    have n21 : ¬ (2 : Int32) = 1 := by decide
    rw [if_neg n22, if_pos n20, if_pos n21, show f_X7_minute 19 A' = some (A'.1 20 65, A') from rfl, zbE, c_minute, zbE]
    exact sim_obs H0' hAo hBo (by rw [y15, y10.2 18 (by decide) (by decide) (by decide)])
theorem best_L {np tb : Nat} {hole : Int32} (hM : M < 900000) (p0 : np ≤ 4) (b1 : tb < nj) (b2 : tb < 4) : ∀ (k p f : Nat) (best xC xR : Int32) (A B : zS), p + k = np → k < f → InvD 0 M nj nh nt A B → A.1 0 15 = Int32.ofNat np → B.1 41 32 = Int32.ofNat np → A.1 18 64 = Int32.ofNat tb → A.1 18 (7 * tb + 5) = 0 → A.1 18 (7 * tb + 6) = 0 →
    (best = -1 ∨ (bd xC 0 (M + 1000) ∧ xR = xC - A.1 18 65)) →
    ∃ r A' B', f_X11_best_L16 (fun q41 _ _ S40 => some (q41, S40)) hole f best xC (Int32.ofNat p) A = some (r, A') ∧ f_X12_best_L21 (fun q25 _ _ S24 => some (q25, S24)) hole f best xR (Int32.ofNat p) B = some (r, B') ∧ Inv (M + 1000) A' B' := by
  intro k
  induction k with
  | zero =>
    intro p f best xC xR A B hi hf H h15 h32 b3 b5 b6 hx
    obtain ⟨f, rfl⟩ : ∃ g, f = g + 1 := ⟨f - 1, by omega⟩
    have hi : p = np := by omega
    subst hi
    unfold f_X11_best_L16 f_X12_best_L21
    rw [h15, h32, if_pos (Int32.le_refl _), if_pos (Int32.le_refl _)]
    exact ⟨best, A, B, rfl, rfl, H.sim⟩
  | succ k ih =>
    intro p f best xC xR A B hi hf H h15 h32 b3 b5 b6 hx
    obtain ⟨f, rfl⟩ : ∃ g, f = g + 1 := ⟨f - 1, by omega⟩
    have hlt : ¬ Int32.ofNat np ≤ Int32.ofNat p := fun q => by have := (io_le (by omega) (by omega)).mp q; omega
    have q0 : ¬ Int32.ofNat p < 0 := fun q => by rw [i_lt0, ti_nat (by omega)] at q; omega
    obtain ⟨a, m, st, e, A', B', y1, y2, y3, y4, y5, y6, y7, y8, y9, y10, y11, y12, y13, ⟨F1, F2, F3⟩, y15⟩ := plan2 H hM b1 b2 b3 b5 b6 h15 p0 (show p < np by omega)
    unfold f_X11_best_L16 f_X12_best_L21 f_X11_stepsOf
    rw [h15, h32, if_neg hlt, if_neg hlt, if_neg q0, if_neg hlt, if_pos (io_in (by omega) (by omega)), io_cl (by omega), y1]
    have e40 : ∀ X, zb (zkr (.ref a) (some (Value.null, A)) fun a4 => if 64 ≤ a4 ∧ a4 < A.2.2.2 then some (.ref a4, A) else none) X = (X (.ref a) A : Option (Int32 × zS)) := by
      intro X
      show zb (if 64 ≤ a ∧ a < A.2.2.2 then some (Value.ref a, A) else none) X = _
      rw [if_pos ⟨y2, y3⟩, zbE]
    rw [e40]
    have ekr : ∀ (X : Option (Int32 × zS)) (Y : Nat → Option (Int32 × zS)), zkr (.ref a) X Y = Y a := fun _ _ => Eq.trans rfl rfl
    rw [ekr, if_pos ⟨y2, y3⟩, y8, y9, zbE, zbE, c_lid (o := 19) (x := 5) (c := 5) y13 b2 (by omega) rfl, zbE]
    have hAo := y10.obs (by omega) H.longC
    have hBo := y11.obs H.longR
    have H' := H.obs hAo hBo
    have r18 : A'.1 18 = A.1 18 := y10.2 18 (by decide) (by decide) (by decide)
    have r0 : A'.1 0 = A.1 0 := y10.2 0 (by decide) (by decide) (by decide)
    have r32 : B'.1 41 32 = Int32.ofNat np := by rw [y11.2.1 32 (by omega) (by decide) (by decide) (by decide) (by decide) (by decide)]; exact h32
    have skip : ∃ r A'' B'', f_X11_best_L16 (fun q41 _ _ S40 => some (q41, S40)) hole f best xC (Int32.ofNat p + 1) A' = some (r, A'') ∧ f_X12_best_L21 (fun q25 _ _ S24 => some (q25, S24)) hole f best xR (Int32.ofNat p + 1) B' = some (r, B'') ∧ Inv (M + 1000) A'' B'' := by
      rw [io_sc]
      exact ih (p + 1) f best xC xR A' B' (by omega) (by omega) H' (by rw [r0]; exact h15) r32 (by rw [r18]; exact b3) (by rw [r18]; exact b5) (by rw [r18]; exact b6) (by rw [r18]; exact hx)
    have take : ∃ r A'' B'', f_X11_best_L16 (fun q41 _ _ S40 => some (q41, S40)) hole f (Int32.ofNat p) (A'.1 20 65) (Int32.ofNat p + 1) A' = some (r, A'') ∧ f_X12_best_L21 (fun q25 _ _ S24 => some (q25, S24)) hole f (Int32.ofNat p) (B'.1 41 46) (Int32.ofNat p + 1) B' = some (r, B'') ∧ Inv (M + 1000) A'' B'' := by
      rw [io_sc]
      exact ih (p + 1) f _ _ _ A' B' (by omega) (by omega) H' (by rw [r0]; exact h15) r32 (by rw [r18]; exact b3) (by rw [r18]; exact b5) (by rw [r18]; exact b6) (Or.inr ⟨y12.2.2.2.2, by rw [y15, r18]⟩)
    have min19 : ∀ S : zS, f_X7_minute 19 S = some (S.1 20 65, S) := fun _ => rfl
    have n01 : ¬ (0 : Int32) = 1 := by decide
    simp only [zlE, min19, zbE]
    by_cases ho : A'.1 20 (7 * tb + 5) = 1
    case neg =>
      rw [if_neg ho] at F1
      rw [if_pos ho, F1, if_pos rfl]
      exact skip
    rw [if_pos ho] at F1
    have fne : ¬ B'.1 41 44 = -1 := by rw [F1]; exact io_ne1 (by omega)
    rw [if_neg (fun q => q ho), if_neg fne]
    have choose : ∃ r A'' B'', (if best = -1 then f_X11_best_L16 (fun q41 _ _ S40 => some (q41, S40)) hole f (Int32.ofNat p) (A'.1 20 65) (Int32.ofNat p + 1) A' else if xC ≤ A'.1 20 65 then f_X11_best_L16 (fun q41 _ _ S40 => some (q41, S40)) hole f best xC (Int32.ofNat p + 1) A' else f_X11_best_L16 (fun q41 _ _ S40 => some (q41, S40)) hole f (Int32.ofNat p) (A'.1 20 65) (Int32.ofNat p + 1) A') = some (r, A'') ∧
        (if best = -1 then f_X12_best_L21 (fun q25 _ _ S24 => some (q25, S24)) hole f (Int32.ofNat p) (B'.1 41 46) (Int32.ofNat p + 1) B' else if B'.1 41 46 < xR then f_X12_best_L21 (fun q25 _ _ S24 => some (q25, S24)) hole f (Int32.ofNat p) (B'.1 41 46) (Int32.ofNat p + 1) B' else f_X12_best_L21 (fun q25 _ _ S24 => some (q25, S24)) hole f best xR (Int32.ofNat p + 1) B') = some (r, B'') ∧ Inv (M + 1000) A'' B'' := by
      by_cases hb : best = -1
      · rw [if_pos hb, if_pos hb]
        exact take
      · rw [if_neg hb, if_neg hb]
        obtain ⟨c1, c2⟩ := hx.resolve_left hb
        have m1 := y12.2.2.2.2
        have m0' := H.row.2.2.2.2
        unfold bd at c1 m1 m0'
        have d1 : (xC - A.1 18 65).toInt = xC.toInt - (A.1 18 65).toInt := ti_sub (by omega)
        have d2 : (A'.1 20 65 - A.1 18 65).toInt = (A'.1 20 65).toInt - (A.1 18 65).toInt := ti_sub (by omega)
        have iff : B'.1 41 46 < xR ↔ ¬ xC ≤ A'.1 20 65 := by
          rw [y15, c2, Int32.lt_iff_toInt_lt, Int32.le_iff_toInt_le, d1, d2]
          omega
        by_cases hle : xC ≤ A'.1 20 65
        · rw [if_pos hle, if_neg (fun q => iff.mp q hle)]
          exact skip
        · rw [if_neg hle, if_pos (iff.mpr hle)]
          exact take
    have ra : A'.1 a = A.1 a := y10.2 a (fun q => by rw [q] at y2; exact absurd y2 (by decide)) (fun q => by rw [q] at y2; exact absurd y2 (by decide)) (fun q => by rw [q] at y2; exact absurd y2 (by decide))
    have hh : f_X11_hasHole a (Int32.ofNat e) A' = some (B'.1 41 47, A') := by
      have z := c_hasHole (A := A') (a := a) (m := m) (e := e) (st := st) (by rw [y10.1]; exact y6) y4 (fun i hi => by rw [ra]; exact y7 i hi) y5 e 0 zN (by omega) (by unfold zN; omega)
      have z2 := holeFG st e 0
      rw [Nat.zero_add, if_neg (show ¬ ¬ holeF st 0 = 0 from fun q => q rfl)] at z2
      rw [F3, z2]
      exact z
    by_cases hi1 : hole = 0
    · rw [if_neg (fun q => q hi1), hh, zbE]
      by_cases h47 : B'.1 41 47 = 0
      · rw [if_neg (fun q => q h47), if_pos h47]
        exact choose
      · rw [if_pos h47, if_neg h47, if_pos hi1]
        exact skip
    · rw [if_pos hi1]
      have eR : ∀ X Y : Option (Int32 × zS), (if B'.1 41 47 = 0 then X else if hole = 0 then Y else X) = X := by
        intro X Y
        rw [if_neg hi1]
        split <;> rfl
      rw [eR]
      exact choose
theorem op_best (H : InvD 0 M nj nh nt A B) (hM : M < 900000) (v : Int32) : Sim M (f_X11_best v A) (f_X12_best v B) := by
  have H0 := H.thr 0
  unfold f_X11_best f_X12_best
  rw [zlE]
  generalize sV B 41 0 0 = B0 at H0 ⊢
  have H0' := H0
  obtain ⟨u, h1, h2, h3, h4, ⟨np, p0, p1, p2, p3⟩, -⟩ := H0
  rcases shut2 H0' with ⟨tb, b1, b2, b3, b4, b5, b6, e2, e3, -⟩ | ⟨e2, e3, -⟩
  · rw [e2, e3, zbE, zbE, if_pos n10, if_pos n10]
    obtain ⟨r, A', B', f1, f2, f3⟩ := best_L (hole := v) hM p0 b1 b2 np 0 zN (-1) 0 0 A B0 (by omega) (by unfold zN; omega) H0' p1 p2 b3 b5 b6 (Or.inl rfl)
    exact ⟨r, A', B', f1, f2, f3⟩
  · rw [e2, e3, zbE, zbE, if_neg n00, if_neg n00]
    exact Sim.no H0' _
end MY
