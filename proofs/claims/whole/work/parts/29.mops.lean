/-! Acts of the class and of the reference. -/
section MK
theorem heldR_law {B : zS} {W : zLw} (H : HeldR B W) : LawR B W := by
  rcases H with ⟨h1, h2⟩ | ⟨i, cs, h1, h2, h3, rfl⟩
  · exact heldR_plain h1 h2
  · exact heldR_code h1 h2 h3
def Sim (M : Nat) (mC mR : Option (Int32 × zS)) : Prop := ∃ r A' B', mC = some (r, A') ∧ mR = some (r, B') ∧ Inv (M + 1000) A' B'
section K
variable {d M nj nh nt : Nat} {A B : zS}
theorem InvD.longC (H : InvD d M nj nh nt A B) : ∃ x, A.2.1 0 18 = .long x := by
  obtain ⟨u, h1, h2, h3, h4, h5, h6, h7, h8, h9, h10, h11, h12, h13, h14⟩ := H
  exact h13
theorem InvD.longR (H : InvD d M nj nh nt A B) : ∃ x, B.2.1 41 51 = .long x := by
  obtain ⟨u, h1, h2, h3, h4, h5, h6, h7, h8, h9, h10, h11, h12, h13, h14⟩ := H
  exact h14
theorem InvD.told (H : InvD d M nj nh nt A B) : ITold nj nh nt A B := by
  obtain ⟨u, h1, -⟩ := H
  exact h1
theorem InvD.row (H : InvD d M nj nh nt A B) : IRow (B.1 46) nj M (A.1 18) (B.1 54) := by
  obtain ⟨u, h1, h2, h3, h4, h5, h6, -⟩ := H
  exact h6
theorem InvD.law (H : InvD d M nj nh nt A B) : ∃ W, LawC A W ∧ LawR B W := by
  obtain ⟨u, h1, h2, ⟨W, h3, h4⟩, -⟩ := H
  exact ⟨W, heldC_law h3, heldR_law h4⟩
theorem obsC_same (h : sameC A B) (hl : ∃ x, A.2.1 0 18 = .long x) : obsC A B := by
  refine ⟨fun b hb => h.2 b (by omega) (by omega), by rw [h.2 1 (by decide) (by decide)], by rw [h.1], fun b k _ => by rw [h.1], by rw [h.1]; exact hl⟩
theorem obsR_same (h : sameR A B) (hl : ∃ x, A.2.1 41 51 = .long x) : obsR A B := by
  refine ⟨fun b hb => h.1 b (by omega) (by omega), fun k hk => h.2.1 k (by omega) (by omega), fun k _ => by rw [h.1 52 (by decide) (by decide)], fun k _ => by rw [h.1 53 (by decide) (by decide)], h.2.2.1, by rw [h.2.2.2 41 51 (by decide)]; exact hl⟩
theorem obsR_41 (B : zS) {k : Nat} (hk : k ≠ 6 ∧ k ≠ 7 ∧ k ≠ 24 ∧ k ≠ 25 ∧ k ≠ 26 ∧ k ≠ 32 ∧ k ≠ 35 ∧ k ≠ 39 ∧ k ≠ 40 ∧ k ≠ 50 ∧ k ≠ 53) (x : Int32) (hl : ∃ x, B.2.1 41 51 = .long x) : obsR B (sV B 41 k x) := by
  rw [sV_eq]
  exact ⟨fun b hb => sR_ne _ _ (by omega), fun j hj => by rw [sR_at, ru_ne (by omega)], fun j _ => by rw [sR_ne _ _ (by decide)], fun j _ => by rw [sR_ne _ _ (by decide)], rfl, hl⟩
theorem InvD.refl (H : InvD d M nj nh nt A B) : obsC A A := ⟨fun _ _ => rfl, rfl, rfl, fun _ _ _ => rfl, H.longC⟩
theorem InvD.reflR (H : InvD d M nj nh nt A B) : obsR B B := ⟨fun _ _ => rfl, fun _ _ => rfl, fun _ _ => rfl, fun _ _ => rfl, rfl, H.longR⟩
theorem InvD.thr (H : InvD d M nj nh nt A B) (x : Int32) : InvD d M nj nh nt A (sV B 41 0 x) := H.obs H.refl (obsR_41 B (by decide) x H.longR)
theorem InvD.sim (H : InvD 0 M nj nh nt A B) : Inv (M + 1000) A B := ⟨nj, nh, nt, H.mono (by omega)⟩
theorem Sim.no (H : InvD 0 M nj nh nt A B) (r : Int32) : Sim M (some (r, A)) (some (r, B)) := ⟨r, A, B, rfl, rfl, H.sim⟩
/-- behind a scene's change the act is noted -/
theorem act_end {M' : Nat} {A' B' : zS} (H1 : InvD 1 M nj nh nt A B) (hA : sameC A A') (hB : sameR B B') (hM : M ≤ M') {r q : Nat → Int32} (hr : IRow (B.1 46) nj M' r q) (c : Int32) :
    ∃ A3 B3, f_X1_note c (r 65) (sR A' 18 r) = some ((), A3) ∧ f_X12_writes c (sR B' 54 q) = some ((), B3) ∧ InvD 0 M' nj nh nt A3 B3 ∧ A3.1 18 = r ∧ B3.1 54 = q ∧ A3.2 = A.2 ∧ B3.2.2 = B.2.2 ∧ A3.1 0 = A.1 0 ∧ B3.2.1 41 51 = B.2.1 41 51 := by
  have H2 := (H1.obs (obsC_same hA H1.longC) (obsR_same hB H1.longR)).scene hM (by rw [hB.1 46 (by decide) (by decide)]; exact hr)
  obtain ⟨A3, B3, n1, n2, H3, gA, gB⟩ := note_ok H2 c (mn := r 65) (by rw [sR_at])
  exact ⟨A3, B3, n1, n2, H3, by rw [gA.2 18 (by decide) (by decide) (by decide), sR_at], by rw [gB.2.1 54 (by decide) (by decide) (by decide), sR_at], by rw [gA.1, sR_2, hA.1], by rw [gB.1, sR_2, hB.2.2.1], by rw [gA.2 0 (by decide) (by decide) (by decide), sR_ne _ _ (by decide), hA.2 0 (by decide) (by decide)], by rw [gB.1, sR_2]; exact hB.2.2.2 41 51 (by decide)⟩
theorem c_minute (A : zS) : f_X7_minute 17 A = some (A.1 18 65, A) := rfl
theorem shut2 (H : InvD d M nj nh nt A B) : (∃ tb, tb < nj ∧ tb < 4 ∧ A.1 18 64 = Int32.ofNat tb ∧ B.1 54 64 = Int32.ofNat tb ∧ A.1 18 (7 * tb + 5) = 0 ∧ A.1 18 (7 * tb + 6) = 0 ∧ f_X11_lidIsShut A = some (1, A) ∧ f_X12_canWork B = some (1, B) ∧ f_X12_isDone 54 B = some (0, B)) ∨
    (f_X11_lidIsShut A = some (0, A) ∧ f_X12_canWork B = some (0, B) ∧ (0 < nj → f_X12_isDone 54 B = some (1, B))) := by
  obtain ⟨t1, t2, t3, t4, t5, t6, t7, t8, t9, t10, t11⟩ := H.told
  obtain ⟨R1, R2⟩ := H.row
  obtain ⟨tb, b1, b2, b3⟩ := R2.1
  have b4 : B.1 54 64 = Int32.ofNat tb := by rw [← R1.pl (by omega)]; exact b3
  have g5 := R1.pl (k := 7 * tb + 5) (by omega)
  have g6 := R1.pl (k := 7 * tb + 6) (by omega)
  obtain ⟨-, -, -, -, c5, c6, -⟩ := R2.2.1 tb b1
  have e1 := r_isDone (w := 54) b4 b1
  have e2 := c_isClosed (o := 17) (S := A) b1
  unfold f_X11_lidIsShut f_X12_canWork
  rw [e1, t7, t4, c_onTable b3]
  simp only [zbE]
  rw [e2, ← g5, ← g6, zbE]
  have n4 := t11.1
  by_cases hn : nj = 0
  · subst hn
    refine Or.inr ⟨?_, ?_, fun h => absurd h (by omega)⟩
    · rw [if_pos rfl]; exact if_pos rfl
    · exact if_pos (by decide)
  · have q1 : ¬ Int32.ofNat nj ≤ 0 := fun q => by have := (io_le (a := nj) (b := 0) (by omega) (by omega)).mp q; omega
    rw [if_neg hn, if_neg (by decide), if_neg q1]
    have z1 : ¬ ((1 : Int32) = 0) := by decide
    rcases c5 with c5 | c5 <;> rcases c6 with c6 | c6
    · refine Or.inl ⟨tb, by omega, b1, b3, b4, c5, c6, ?_, ?_, ?_⟩
      all_goals simp [c5, c6]
    · refine Or.inr ⟨?_, ?_, fun _ => ?_⟩
      all_goals simp [c5, c6]
    · refine Or.inr ⟨?_, ?_, fun _ => ?_⟩
      all_goals simp [c5, c6]
    · refine Or.inr ⟨?_, ?_, fun _ => ?_⟩
      all_goals simp [c5, c6]
theorem if_rng {α : Type} {v a b : Int32} {x y : α} : (if v < a then x else if b < v then x else y) = if a.toInt ≤ v.toInt ∧ v.toInt ≤ b.toInt then y else x := by
  by_cases h1 : v < a
  · have h1' := Int32.lt_iff_toInt_lt.mp h1
    rw [if_pos h1, if_neg (by omega)]
  · have h1' : ¬ v.toInt < a.toInt := fun q => h1 (Int32.lt_iff_toInt_lt.mpr q)
    rw [if_neg h1]
    by_cases h2 : b < v
    · have h2' := Int32.lt_iff_toInt_lt.mp h2
      rw [if_pos h2, if_neg (by omega)]
    · have h2' : ¬ b.toInt < v.toInt := fun q => h2 (Int32.lt_iff_toInt_lt.mpr q)
      rw [if_neg h2, if_pos (by omega)]
theorem if_rng' {α : Type} {v a b : Int32} {x y : α} : (if v < a then x else if v ≤ b then y else x) = if a.toInt ≤ v.toInt ∧ v.toInt ≤ b.toInt then y else x := by
  rw [← if_rng (v := v) (a := a) (b := b)]
  by_cases h1 : v < a
  · rw [if_pos h1, if_pos h1]
  · rw [if_neg h1, if_neg h1]
    by_cases h2 : b < v
    · rw [if_pos h2, if_neg (fun q => Int32.not_le.mpr h2 q)]
    · rw [if_neg h2, if_pos (Int32.not_lt.mp h2)]
theorem hT_eq (H : ITold nj nh nt A B) {h c : Nat} (hh : h < nh) (hc : c < 5) : A.1 13 (24 + (5 * h + c)) = B.1 48 (5 * h + c) := by
  obtain ⟨t1, t2, t3, t4, t5, t6, t7, t8, t9, t10, t11⟩ := H
  exact t9 _ (by omega)
theorem tire_cg {hT hT' : Nat → Int32} {h : Nat} (e : hT (5 * h + 3) = hT' (5 * h + 3)) (r : Nat → Int32) : tireM hT h r = tireM hT' h r := by
  unfold tireM
  rw [e]
theorem warm_cg {jT jT' : Nat → Int32} {tb : Nat} (e : jT (6 * tb + 5) = jT' (6 * tb + 5)) (n : Int32) (r : Nat → Int32) : warmM jT tb n r = warmM jT' tb n r := by
  unfold warmM
  rw [e]
theorem restH_cg {hT hT' : Nat → Int32} {n : Int32} {r : Nat → Int32} : ∀ h, (∀ k, k < h → hT (5 * k) = hT' (5 * k)) → restH hT n h r = restH hT' n h r
  | 0, _ => rfl
  | h + 1, e => by
    unfold restH
    rw [restH_cg h (fun k hk => e k (by omega)), e h (by omega)]
theorem try_cg {lo : Nat → Nat → Nat} {hT hT' : Nat → Int32} {tb h : Nat} {g : Int32} {r : Nat → Int32} (e : hT (5 * h + 3) = hT' (5 * h + 3)) : tryM lo hT tb h g r = tryM lo hT' tb h g r := by
  unfold tryM
  rw [tire_cg e, tire_cg e]
theorem op_heat (H : InvD 0 M nj nh nt A B) (hM : M < 900000) (v : Int32) : Sim M (f_X11_heat v A) (f_X12_heat v B) := by
  have H0 := H.thr 0
  unfold f_X11_heat f_X12_heat
  rw [zlE, if_rng]
  generalize sV B 41 0 0 = B0 at H0 ⊢
  have e1 : (1 : Int64).toInt = 1 := by decide
  have e60 : (60 : Int64).toInt = 60 := by decide
  have f60 : (60 : Int32).toInt = 60 := by decide
  simp only [r_isIn, e1, e60, zbE, ti_1, f60]
  by_cases hv : 1 ≤ v.toInt ∧ v.toInt ≤ 60
  · simp only [if_pos hv]
    rcases shut2 H0 with ⟨tb, b1, b2, b3, b4, b5, b6, e2, e3, -⟩ | ⟨e2, e3, -⟩
    · rw [e2, e3, zbE, zbE, if_pos (by decide), if_neg (by decide), if_pos (by decide)]
      obtain ⟨A1, B1, k1, k2, H1, fA, fB⟩ := keep_ok H0
      have b3' : A1.1 18 64 = Int32.ofNat tb := by rw [fA.2 18 (by decide) (by decide)]; exact b3
      have b4' : B1.1 54 64 = Int32.ofNat tb := by rw [fB.2.1 54 (by decide) (by decide)]; exact b4
      rw [k1, zbE, k2, zbE, c_warm (o := 17) (by decide) b3' b2, zbE, r_heats (w := 54) (by decide) b4' b2, zbE]
      obtain ⟨t1, t2, t3, t4, t5, t6, t7, t8, t9, t10, t11⟩ := H1.told
      have ej : A1.1 13 (6 * tb + 5) = B1.1 46 (6 * tb + 5) := t8 _ (by omega)
      obtain ⟨R1, R2⟩ := H1.row
      have hr : IRow (B1.1 46) nj (M + 1) (warmM (A1.1 13) tb v (A1.1 18)) (warmM (B1.1 46) tb v (B1.1 54)) := by
        rw [warm_cg ej]
        exact ⟨R1.warm b2 v, R2.warm (by omega) b2 b1 (t11.2.2.2.2.2.1 tb b1).2.2.2.2.2 (by rw [fA.2 18 (by decide) (by decide)]; exact b6) ⟨by omega, by omega⟩⟩
      have fin : ∀ c : Int32, Sim M (zb (f_X7_minute 17 (sR A1 18 (warmM (A1.1 13) tb v (A1.1 18)))) fun r17 S16 => zb (f_X1_note c r17 S16) fun _ S19 => zb (f_X7_lid 17 6 S19) fun r23 S22 => some (r23, S22)) (zb (f_X12_writes c (sR B1 54 (warmM (B1.1 46) tb v (B1.1 54)))) fun _ S19 => if ia_in ((7 * (S19.1 54 64)) + 6) 66 = true then some (S19.1 54 ((7 * (S19.1 54 64)) + 6).toNatClampNeg, S19) else none) := by
        intro c
        obtain ⟨A3, B3, n1, n2, H3, g1, g2, -, -⟩ := act_end H1 (sameC.rfl' _) (sameR.rfl' _) (by omega) hr c
        rw [c_minute, zbE, sR_at, n1, zbE, n2, zbE]
        have w64 : A3.1 18 64 = Int32.ofNat tb := by
          rw [g1]
          unfold warmM warm3
          split <;> simp (disch := omega) only [um_ne, ru_ne, b3']
        have w64' : B3.1 54 64 = Int32.ofNat tb := by rw [← H3.row.1.pl (by omega)]; exact w64
        rw [c_lid (x := 6) (c := 6) w64 b2 (by omega) rfl, zbE, w64']
        simp (disch := omega) only [ix_m7, ix_p6, io_in, io_cl, if_true]
        exact ⟨_, A3, B3, rfl, by rw [H3.row.1.pl (by omega)], nj, nh, nt, H3.mono (by omega)⟩
      by_cases h10 : v = 10
      · have := fin 3
        simp only [zlE, h10] at this ⊢
        exact this
      · simp only [zlE]
        rw [if_pos h10, if_pos h10]
        exact fin 5
    · rw [e2, e3, zbE, zbE, if_neg (by decide), if_pos rfl]
      exact Sim.no H0 _
  · simp only [if_neg hv]
    rcases shut2 H0 with ⟨tb, b1, b2, b3, b4, b5, b6, e2, e3, -⟩ | ⟨e2, e3, -⟩
    · rw [e3, zbE, if_neg (by decide), if_neg (by decide)]
      exact Sim.no H0 _
    · rw [e3, zbE, if_pos rfl]
      exact Sim.no H0 _
end K
end MK
