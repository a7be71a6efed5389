/-! Order. -/
section NH
variable {d M nj nh nt : Nat} {A B : zS}
/-- what the hand h is worth as the next of n -/
def nxO (g : Nat → Int32) (rest : Int32) (nh m : Nat) (l : Int32) (ln n h : Nat) : Option Nat := match n with
  | 0 => none
  | n + 1 => if m.testBit h then none else if n = 0 then (if g h < rest + l then none else some (fillM (m ||| 2 ^ h) nh 0 (ln * 10 + h))) else ordM g rest nh n (m ||| 2 ^ h) (m0 (l - g h / 10)) (ln * 10 + h)
theorem ordL_none : ∀ k h, ordL (fun _ => none) k h = none
  | 0, _ => rfl
  | k + 1, h => by
    unfold ordL
    exact ordL_none k (h + 1)
theorem ord_nx {g : Nat → Int32} {rest : Int32} {m : Nat} {l : Int32} {ln n : Nat} : ordM g rest nh n m l ln = ordL (nxO g rest nh m l ln n) nh 0 := by
  cases n with
  | zero => exact (ordL_none nh 0).symm
  | succ n => rw [ordM]; rfl
theorem r_goN {W : zLw} {B0 : zS} (T0 : ITold nj nh nt A B0) (w2 : LawR B0 W) {tb : Nat} (hb : tb < 4) (hM : M < 900000) {r0 : Nat → Int32} (R0 : IRow (B0.1 46) nj M r0 (B0.1 54)) (k64 : B0.1 54 64 = Int32.ofNat tb) (k5 : B0.1 54 (7 * tb + 5) = 0) (k6 : B0.1 54 (7 * tb + 6) = 0) : ∀ (k c G m : Nat) (l : Int32) (ln : Nat) (b : Option (Nat × Nat)) (B : zS), c + k = nh → k < G → Pre (gO W B0 tb) (rO B0 tb) (B0.1 54 (7 * tb + 1)) nh c ln m l → sOrd B0 B → BR B b →
    ∃ B', f_X12_goOrder_g G (Int32.ofNat m) (Int32.ofNat ln) (Int32.ofNat c) (-1) B = some ((), B') ∧ sOrd B0 B' ∧ BR B' (upO b (shO c (fstO (fun n => ordM (gO W B0 tb) (rO B0 tb) nh n m l ln) k 1))) := by
  have n6 : nh ≤ 6 := T0.2.2.2.2.2.2.2.2.2.2.2.1
  have e25 : B0.1 41 25 = Int32.ofNat nh := T0.2.2.2.2.1
  have i5 : ia_in (7 * Int32.ofNat tb + 5) 66 = true := by simp (disch := omega) only [ix_m7, ix_p5, io_in]
  have c5 : (7 * Int32.ofNat tb + 5).toNatClampNeg = 7 * tb + 5 := by simp (disch := omega) only [ix_m7, ix_p5, io_cl]
  have i3 : ia_in (6 * Int32.ofNat tb + 3) 24 = true := by simp (disch := omega) only [ix_m6, ix_p3, io_in]
  have c3 : (6 * Int32.ofNat tb + 3).toNatClampNeg = 6 * tb + 3 := by simp (disch := omega) only [ix_m6, ix_p3, io_cl]
  have n01 : ¬ (0 : Int32) = 1 := by decide
  intro k
  induction k with
  | zero =>
    intro c G m l ln b B hk hG P hs hB
    obtain ⟨G, rfl⟩ : ∃ g, G = g + 1 := ⟨G - 1, by omega⟩
    have hc : c = nh := by omega
    subst hc
    have x25 : B.1 41 25 = Int32.ofNat c := by rw [hs.2.1 25 (by omega) (by decide) (by omega)]; exact e25
    show ∃ B', f_X12_goOrder_o (f_X12_goOrder_g G) _ _ _ _ _ = _ ∧ _
    unfold f_X12_goOrder_o
    rw [x25, if_neg (fun q => q rfl), if_pos rfl]
    exact ⟨B, rfl, hs, hB⟩
  | succ k ih =>
    intro c G m l ln b B hk hG P hs hB
    obtain ⟨G, rfl⟩ : ∃ g, G = g + 1 := ⟨G - 1, by omega⟩
    obtain ⟨p1, p2, p3⟩ := P.lt n6
    have x25 : B.1 41 25 = Int32.ofNat nh := by rw [hs.2.1 25 (by omega) (by decide) (by omega)]; exact e25
    show ∃ B', f_X12_goOrder_o (f_X12_goOrder_g G) _ _ _ _ _ = _ ∧ _
    unfold f_X12_goOrder_o
    rw [x25, if_pos (fun q => by have := (io_eq (by omega) (by omega)).mp q; omega)]
    have L : ∀ (j h f : Nat) (b : Option (Nat × Nat)) (B : zS), h + j = nh → j < f → sOrd B0 B → BR B b → ∃ B', f_X12_goOrder_o_L47 (f_X12_goOrder_g G) (fun (q29 : Int32) (S28 : zS) => some ((), S28)) (Int32.ofNat m) (Int32.ofNat ln) (Int32.ofNat c) (-1) f (Int32.ofNat h) B = some ((), B') ∧ sOrd B0 B' ∧ BR B' (upO b (shO c (fstO (fun n => ordL (nxO (gO W B0 tb) (rO B0 tb) nh m l ln n) j h) (k + 1) 1))) := by
      intro j
      induction j with
      | zero =>
        intro h f b B hi hf hs hB
        obtain ⟨f, rfl⟩ : ∃ g, f = g + 1 := ⟨f - 1, by omega⟩
        have hi : h = nh := by omega
        subst hi
        unfold f_X12_goOrder_o_L47
        rw [hs.2.1 25 (by omega) (by decide) (by omega), e25, if_pos (Int32.le_refl _), show fstO (fun n => ordL (nxO (gO W B0 tb) (rO B0 tb) h m l ln n) 0 h) (k + 1) 1 = none from fst_none (k + 1) 1]
        exact ⟨B, rfl, hs, hB⟩
      | succ j ihj =>
        intro h f b B hi hf hs hB
        obtain ⟨f, rfl⟩ : ∃ g, f = g + 1 := ⟨f - 1, by omega⟩
        have hlt : ¬ Int32.ofNat nh ≤ Int32.ofNat h := fun q => by have := (io_le (by omega) (by omega)).mp q; omega
        have eor := fst_or (f := fun n => nxO (gO W B0 tb) (rO B0 tb) nh m l ln n h) (g := fun n => ordL (nxO (gO W B0 tb) (rO B0 tb) nh m l ln n) j (h + 1)) (F := fun n => ordL (nxO (gO W B0 tb) (rO B0 tb) nh m l ln n) (j + 1) h) (fun n => rfl) (k + 1) 1
        rw [eor, shO_upO, ← upO_assoc]
        unfold f_X12_goOrder_o_L47
        rw [hs.2.1 25 (by omega) (by decide) (by omega), e25, if_neg hlt, r_has p2 (by omega), zbE]
        simp (disch := omega) only [zlE, io_sc, bt_2, io_dig', if_true]
        cases hb2 : m.testBit h with
        | true =>
          have en : fstO (fun n => nxO (gO W B0 tb) (rO B0 tb) nh m l ln n h) (k + 1) 1 = none := by
            rw [show (fun n => nxO (gO W B0 tb) (rO B0 tb) nh m l ln n h) = (fun _ => none) from by
              funext n
              cases n with
              | zero => rfl
              | succ n => unfold nxO; rw [hb2]; rfl]
            exact fst_none _ _
          rw [en, if_pos rfl, if_neg n10]
          exact ihj (h + 1) f b B (by omega) (by omega) hs hB
        | false =>
          have nf : ¬ false = true := by decide
          have hu := un_set hb2 nh 0 (by omega) (by omega)
          obtain ⟨B1, u1, u2, u3⟩ := r_lineUp T0 w2 hb hM R0 k64 k5 k6 (by omega) P hs
          have s1 := hs.tr (sOrd.run u2)
          obtain ⟨B2, v1, v2, v3, v4, v5⟩ := r_turnM (M := M + c) T0 w2 hb (by omega) (show h < nh by omega) hb2 s1 u3
          have s2 := s1.tr (sOrd.run v2)
          have br2 := (hB.run u2).run v2
          rw [if_neg nf, if_pos rfl, u1, zbE, u3.1, if_pos i3, c3, v1, zbE, v3, if_pos i5, c5]
          by_cases hg : gO W B0 tb h < rO B0 tb + l
          · have tr := v4 hg
            have e5 : B2.1 55 (7 * tb + 5) = 0 := tr.2.2.2.2.1
            have P' : Pre (gO W B0 tb) (rO B0 tb) (B0.1 54 (7 * tb + 1)) nh (c + 1) (ln * 10 + h) (m ||| 2 ^ h) (m0 (l - gO W B0 tb h / 10)) := ⟨ln, m, l, h, P, by omega, hb2, hg, rfl, rfl, rfl⟩
            obtain ⟨B3, z1, z2, z3⟩ := ih (c + 1) G _ _ _ b B2 (by omega) (by omega) P' s2 br2
            have en : fstO (fun n => nxO (gO W B0 tb) (rO B0 tb) nh m l ln n h) (k + 1) 1 = shO 1 (fstO (fun n => ordM (gO W B0 tb) (rO B0 tb) nh n (m ||| 2 ^ h) (m0 (l - gO W B0 tb h / 10)) (ln * 10 + h)) k 1) := by
              have e1 : nxO (gO W B0 tb) (rO B0 tb) nh m l ln 1 h = none := by
                show (if m.testBit h then none else if 0 = 0 then (if gO W B0 tb h < rO B0 tb + l then none else some (fillM (m ||| 2 ^ h) nh 0 (ln * 10 + h))) else _) = _
                rw [hb2, if_neg nf, if_pos rfl, if_pos hg]
              rw [fstO, e1]
              refine fst_sh k 1 (fun i hi => ?_)
              unfold nxO
              rw [hb2]
              dsimp only
              rw [if_neg nf, if_neg (by omega)]
            rw [en, shO_1, e5, if_pos n01, z1, zbE]
            exact ihj (h + 1) f _ B3 (by omega) (by omega) z2 z3
          · have e5 := v5 hg
            obtain ⟨B3, z1, z2, z3⟩ := r_goA n6 e25 k (c + 1) G (m ||| 2 ^ h) (ln * 10 + h) (c + 1) b B2 (by omega) (by omega) (bt_3 p2 (by omega)) (by rw [Nat.pow_succ]; omega) (by omega) (by omega) s2 br2
            have en : fstO (fun n => nxO (gO W B0 tb) (rO B0 tb) nh m l ln n h) (k + 1) 1 = some (1, fillM (m ||| 2 ^ h) nh 0 (ln * 10 + h)) := by
              have e1 : nxO (gO W B0 tb) (rO B0 tb) nh m l ln 1 h = some (fillM (m ||| 2 ^ h) nh 0 (ln * 10 + h)) := by
                show (if m.testBit h then none else if 0 = 0 then (if gO W B0 tb h < rO B0 tb + l then none else some (fillM (m ||| 2 ^ h) nh 0 (ln * 10 + h))) else _) = _
                rw [hb2, if_neg nf, if_pos rfl, if_neg hg]
              rw [fstO, e1]
            rw [en, e5, if_neg (fun q => q rfl), z1, zbE, show shO c (some (1, fillM (m ||| 2 ^ h) nh 0 (ln * 10 + h))) = some (c + 1, fillM (m ||| 2 ^ h) nh 0 (ln * 10 + h)) by rw [Nat.add_comm c 1]; rfl]
            exact ihj (h + 1) f _ B3 (by omega) (by omega) z2 z3
    have e := L nh 0 zN b B (by omega) (by unfold zN; omega) hs hB
    rw [show (fun n => ordM (gO W B0 tb) (rO B0 tb) nh n m l ln) = (fun n => ordL (nxO (gO W B0 tb) (rO B0 tb) nh m l ln n) nh 0) from funext fun n => ord_nx]
    exact e
theorem op_order (H : InvD 0 M nj nh nt A B) (hM : M < 900000) (v : Int32) : Sim M (f_X11_order v A) (f_X12_order v B) := by
  have H0 := H.thr 0
  unfold f_X11_order f_X12_order
  rw [zlE]
  generalize sV B 41 0 0 = B0 at H0 ⊢
  obtain ⟨t1, t2, t3, t4, t5, t6, t7, t8, t9, t10, t11⟩ := H0.told
  have n6 := t11.2.1
  have e0 : (0 : Int64).toInt = 0 := by decide
  have e1 : (1 : Int64).toInt = 1 := by decide
  rw [if_rng, ti_0, ti_1]
  rcases shut2 H0 with ⟨tb, b1, b2, b3, b4, b5, b6, e4, e5, -⟩ | ⟨e4, e5, -⟩
  case inr =>
    rw [e4, e5, zbE, zbE, if_neg n00, if_pos rfl]
    have ec : (if 0 ≤ v.toInt ∧ v.toInt ≤ 1 then some ((-1 : Int32), A) else some (-1, A)) = some (-1, A) := by split <;> rfl
    rw [ec]
    exact Sim.no H0 _
  rw [e4, e5, zbE, zbE, if_pos n10, if_neg n10, r_isIn, zbE, e0, e1]
  by_cases hv : 0 ≤ v.toInt ∧ v.toInt ≤ 1
  case neg =>
    rw [if_neg hv, if_neg hv, if_neg n00]
    exact Sim.no H0 _
  rw [if_pos hv, if_pos hv, if_pos n10, zlE]
  have s1 : sOrd B0 (sV B0 41 42 (-1)) := sOrd.fld (by omega) _
  have br1 : BR (sV B0 41 42 (-1)) none := by
    show (sV B0 41 42 (-1)).1 41 42 = -1
    rw [sV_eq, sR_at, ru_at]
  have H1 := H0.obs H0.refl (s1.obs H0.longR)
  generalize sV B0 41 42 (-1) = B1 at s1 br1 H1 ⊢
  obtain ⟨W, w1, w2⟩ := H1.law
  obtain ⟨A', g1, g2, g3⟩ := c_gather w1 b3 b2 t2 n6
  have k64 : B1.1 54 64 = Int32.ofNat tb := by rw [← H1.row.1.pl (by omega)]; exact b3
  have k5 : B1.1 54 (7 * tb + 5) = 0 := by rw [← H1.row.1.pl (by omega)]; exact b5
  have k6 : B1.1 54 (7 * tb + 6) = 0 := by rw [← H1.row.1.pl (by omega)]; exact b6
  have es : A.1 18 (7 * tb + 1) = B1.1 54 (7 * tb + 1) := H1.row.1.pl (by omega)
  have eh : holdM (A.1 18) tb - A.1 18 (7 * tb + 1) = rO B1 tb := by
    unfold rO
    rw [H1.row.1.hold b2, es]
  rw [eh, es] at g3
  have g3' : Crw nh (gO W B1 tb) (B1.1 54 (7 * tb + 1)) (rO B1 tb) A' := ⟨g3.1, g3.2.1, g3.2.2.1, fun h hh => (g3.2.2.2 h hh).trans (grip_eq (W := W) H1.told H1.row.1 (h := h) (j := tb) (t := none) (by omega) (by first | omega | exact tbn H1.told.2.2.2.2.2.2.2.2.2.2 H1.row.2 b3 b2 (by omega)) (fun k hk => by cases hk))⟩
  obtain ⟨B2, z1, z2, z3⟩ := r_goN H1.told w2 b2 hM H1.row k64 k5 k6 nh 0 17 0 (B1.1 54 (7 * tb + 1)) 0 none B1 (by omega) (by omega) ⟨rfl, rfl, rfl⟩ (sOrd.rfl' B1) br1
  have z1' : f_X12_goOrder 0 0 0 (-1) B1 = _ := z1
  rw [g1, zbE, c_finds g3' n6, z1', zbE]
  rw [shO_0] at z3
  have Hf := H1.obs (g2.obs H1.longC) (z2.obs H1.longR)
  cases ho : fstO (fun n => ordM (gO W B1 tb) (rO B1 tb) nh n 0 (B1.1 54 (7 * tb + 1)) 0) nh 1 with
  | none =>
    rw [ho] at z3
    have z4 : B2.1 41 42 = -1 := z3
    rw [show fndC A' none = (0, A') from rfl, zbE, if_neg n00, z4]
    have er : (if ¬ v = 0 then if ¬ (-1 : Int32) = -1 then some (B2.1 41 43, B2) else some (-1, B2) else some (-1, B2)) = some (-1, B2) := by
      rw [if_neg (show ¬ ¬ (-1 : Int32) = -1 from fun q => q rfl)]
      split <;> rfl
    rw [er]
    exact sim_fin Hf (by omega) rfl
  | some x =>
    obtain ⟨n, w⟩ := x
    rw [ho] at z3
    obtain ⟨y1, y2, y3, y4⟩ : B2.1 41 42 = Int32.ofNat w ∧ B2.1 41 43 = Int32.ofNat n ∧ w < 1000000 ∧ n ≤ 6 := z3
    have sC : sCr A' (sV (sV A' 35 4 (Int32.ofNat w)) 35 5 (Int32.ofNat n)) := by
      rw [sV_eq, sV_eq]
      exact (sCr.row (by omega) _).tr (sCr.row (by omega) _)
    have Hg := Hf.obs (sC.obs Hf.longC) Hf.reflR
    have f5 : (sV (sV A' 35 4 (Int32.ofNat w)) 35 5 (Int32.ofNat n)).1 35 5 = Int32.ofNat n := by rw [sV_eq, sR_at, ru_at]
    have f4 : (sV (sV A' 35 4 (Int32.ofNat w)) 35 5 (Int32.ofNat n)).1 35 4 = Int32.ofNat w := by rw [sV_eq, sR_at, ru_ne (by decide), sV_eq, sR_at, ru_at]
    rw [show fndC A' (some (n, w)) = (1, sV (sV A' 35 4 (Int32.ofNat w)) 35 5 (Int32.ofNat n)) from rfl, zbE, if_pos n10, f5, f4, y1, y2, if_pos (io_ne1 (by omega))]
    by_cases h0 : v = 0
    · rw [if_neg (fun q => q h0), if_neg (fun q => q h0)]
      exact sim_fin Hg (by omega) rfl
    · rw [if_pos h0, if_pos h0]
      exact sim_fin Hg (by omega) rfl
end NH
