/-! soonest: the reference's search. -/
section SD
variable {W : zLw} {nj nh nt tb M : Nat} {hole : Int32} {A B : zS}
theorem r_opF (hb : tb < 4) (hn : tb < nj) (hM : M < 900000) : ∀ (n g d c : Nat) (r : Nat → Int32) (B : zS), n + d ≤ 2 → n ≤ g → c < 160 → Sk W nj nh nt (M + 60 * d) d r A B → r 64 = Int32.ofNat tb → r (7 * tb + 6) = 0 →
    ∃ v B', f_X12_opensFirst_o (f_X12_opensBy_g g) (Int32.ofNat c) (Int32.ofNat (n + 1)) (Int32.ofNat d) hole B = some (v, B') ∧ ((v = 1 ∧ opF (actM loC W (A.1 13) (fun k => A.1 13 (24 + k)) (fun k => A.1 13 (54 + k)) nj nh tb) (acN nh nt hole) tb c n r) ∨ (v = 0 ∧ ¬ opF (actM loC W (A.1 13) (fun k => A.1 13 (24 + k)) (fun k => A.1 13 (54 + k)) nj nh tb) (acN nh nt hole) tb c n r)) ∧ sSo d B B' := by
  intro n
  induction n with
  | zero =>
    intro g d c r B hd hg hc K h64 h6
    have T := K.1
    unfold f_X12_opensFirst_o
    rcases r_isAct (hole := hole) T hc with ⟨ha, e1⟩ | ⟨ha, e1⟩
    rotate_left
    · rw [e1, zbE, if_neg (nn rfl)]
      exact ⟨0, B, rfl, Or.inr ⟨rfl, fun q => ha q.1⟩, sSo.rfl' d B⟩
    rw [e1, zbE, if_pos (show ¬ (1 : Int32) = 0 by decide)]
    have n4 := T.2.2.2.2.2.2.2.2.2.2.1
    have n6 := T.2.2.2.2.2.2.2.2.2.2.2.1
    have n44 := T.2.2.2.2.2.2.2.2.2.2.2.2.1
    generalize hX : (fun (q11 : Int32) (S10 : zS) => zb (f_X12_does 55 (Int32.ofNat c) S10) fun _ S12 => _) = X
    obtain ⟨row, o1, o2, -⟩ := r_cp15 (hub := f_X12_opensBy_g g) (ex := X) (i1 := Int32.ofNat c) (i2 := Int32.ofNat (0 + 1)) (i4 := hole) (d := d) (by omega) 66 0 zN B (by omega) (by unfold zN; omega)
    refine (fun {P} (h : P) => h) ?_
    rw [show f_X12_opensFirst_o_L15 (f_X12_opensBy_g g) X (Int32.ofNat c) (Int32.ofNat (0 + 1)) (Int32.ofNat d) hole zN 0 B = X 66 (sR B 55 row) from o1, ← hX]
    dsimp only
    have s1 : sSo d B (sR B 55 row) := sSo.s55 row
    have K1 := K.of s1
    have R1 : IRow ((sR B 55 row).1 46) nj (M + 60 * d) r ((sR B 55 row).1 55) := K1.2.2.cg (fun _ _ => rfl) (fun k hk => by
      rw [sR_at, sR_ne _ _ (by decide)]
      exact o2 k (by omega) hk)
    generalize sR B 55 row = B1 at s1 K1 R1 ⊢
    have R1q := R1.2.tr R1.1
    obtain ⟨B2, d1, d2, d3⟩ := r_does K1.2.1 (w := 55) (tb := tb) (c := c) (by decide) R1q (by rw [← R1.1.pl (k := 64) (by omega)]; exact h64) hb K1.1.2.2.2.1 K1.1.2.2.2.2.1 n4 n6 n44 K1.1.2.2.2.2.2.2.2.2.2.2 ha.2.1
    have R2 := act_row (W := W) K1.1 R1 (by omega) hb hn h6 ha.2.1
    rw [← d3] at R2
    have s2 : sSo d B B2 := s1.tr (sSo.ofw d2)
    have a64 := (act_64 (W := W) (jT := A.1 13) (hT := fun k => A.1 13 (24 + k)) (tT := fun k => A.1 13 (54 + k)) (nt := nt) hb n4 n6 (lo := loC) (fun h hh => by unfold loC; omega) ha.2.1 r).trans h64
    have p5 := R2.1.pl (k := 7 * tb + 5) (by omega)
    have p6 := R2.1.pl (k := 7 * tb + 6) (by omega)
    have k64 : B2.1 55 64 = Int32.ofNat tb := by rw [← R2.1.pl (k := 64) (by omega)]; exact a64
    have q46 : B1.1 46 = B2.1 46 := (d2.1 46 (by decide) (by decide) (by decide)).symm
    rw [q46] at R2
    generalize hr' : actM loC W (A.1 13) (fun k => A.1 13 (24 + k)) (fun k => A.1 13 (54 + k)) nj nh tb c r = r' at *
    rw [d1, zbE, zlE, k64, ix_m7, ix_p5, io_in (by omega) (by omega), if_pos rfl, io_cl (by omega), ← p5]
    by_cases c5 : r' (7 * tb + 5) = 1
    · rw [if_neg (nn c5)]
      exact ⟨1, B2, rfl, Or.inl ⟨rfl, ha, Or.inl (by rw [hr']; exact c5)⟩, s2⟩
    rw [if_pos c5]
    rw [if_pos (show Int32.ofNat (0 + 1) = 1 from rfl)]
    refine ⟨0, B2, rfl, Or.inr ⟨rfl, fun q => ?_⟩, s2⟩
    rcases q.2 with q | q
    · rw [hr'] at q; exact c5 q
    · exact q.2
  | succ n ih =>
    intro g d c r B hd hg hc K h64 h6
    have T := K.1
    unfold f_X12_opensFirst_o
    rcases r_isAct (hole := hole) T hc with ⟨ha, e1⟩ | ⟨ha, e1⟩
    rotate_left
    · rw [e1, zbE, if_neg (nn rfl)]
      exact ⟨0, B, rfl, Or.inr ⟨rfl, fun q => ha q.1⟩, sSo.rfl' d B⟩
    rw [e1, zbE, if_pos (show ¬ (1 : Int32) = 0 by decide)]
    have n4 := T.2.2.2.2.2.2.2.2.2.2.1
    have n6 := T.2.2.2.2.2.2.2.2.2.2.2.1
    have n44 := T.2.2.2.2.2.2.2.2.2.2.2.2.1
    generalize hX : (fun (q11 : Int32) (S10 : zS) => zb (f_X12_does 55 (Int32.ofNat c) S10) fun _ S12 => _) = X
    obtain ⟨row, o1, o2, -⟩ := r_cp15 (hub := f_X12_opensBy_g g) (ex := X) (i1 := Int32.ofNat c) (i2 := Int32.ofNat (n + 1 + 1)) (i4 := hole) (d := d) (by omega) 66 0 zN B (by omega) (by unfold zN; omega)
    refine (fun {P} (h : P) => h) ?_
    rw [show f_X12_opensFirst_o_L15 (f_X12_opensBy_g g) X (Int32.ofNat c) (Int32.ofNat (n + 1 + 1)) (Int32.ofNat d) hole zN 0 B = X 66 (sR B 55 row) from o1, ← hX]
    dsimp only
    have s1 : sSo d B (sR B 55 row) := sSo.s55 row
    have K1 := K.of s1
    have R1 : IRow ((sR B 55 row).1 46) nj (M + 60 * d) r ((sR B 55 row).1 55) := K1.2.2.cg (fun _ _ => rfl) (fun k hk => by
      rw [sR_at, sR_ne _ _ (by decide)]
      exact o2 k (by omega) hk)
    generalize sR B 55 row = B1 at s1 K1 R1 ⊢
    have R1q := R1.2.tr R1.1
    obtain ⟨B2, d1, d2, d3⟩ := r_does K1.2.1 (w := 55) (tb := tb) (c := c) (by decide) R1q (by rw [← R1.1.pl (k := 64) (by omega)]; exact h64) hb K1.1.2.2.2.1 K1.1.2.2.2.2.1 n4 n6 n44 K1.1.2.2.2.2.2.2.2.2.2.2 ha.2.1
    have R2 := act_row (W := W) K1.1 R1 (by omega) hb hn h6 ha.2.1
    rw [← d3] at R2
    have s2 : sSo d B B2 := s1.tr (sSo.ofw d2)
    have a64 := (act_64 (W := W) (jT := A.1 13) (hT := fun k => A.1 13 (24 + k)) (tT := fun k => A.1 13 (54 + k)) (nt := nt) hb n4 n6 (lo := loC) (fun h hh => by unfold loC; omega) ha.2.1 r).trans h64
    have p5 := R2.1.pl (k := 7 * tb + 5) (by omega)
    have p6 := R2.1.pl (k := 7 * tb + 6) (by omega)
    have k64 : B2.1 55 64 = Int32.ofNat tb := by rw [← R2.1.pl (k := 64) (by omega)]; exact a64
    have q46 : B1.1 46 = B2.1 46 := (d2.1 46 (by decide) (by decide) (by decide)).symm
    rw [q46] at R2
    generalize hr' : actM loC W (A.1 13) (fun k => A.1 13 (24 + k)) (fun k => A.1 13 (54 + k)) nj nh tb c r = r' at *
    rw [d1, zbE, zlE, k64, ix_m7, ix_p5, io_in (by omega) (by omega), if_pos rfl, io_cl (by omega), ← p5]
    by_cases c5 : r' (7 * tb + 5) = 1
    · rw [if_neg (nn c5)]
      exact ⟨1, B2, rfl, Or.inl ⟨rfl, ha, Or.inl (by rw [hr']; exact c5)⟩, s2⟩
    rw [if_pos c5]
    rw [if_neg (show ¬ Int32.ofNat (n + 1 + 1) = 1 from fun q => by have := (io_eq (a := n + 1 + 1) (b := 1) (by omega) (by omega)).mp q; omega), ix_p6, io_in (by omega) (by omega), if_pos rfl, io_cl (by omega), ← p6]
    by_cases c6 : r' (7 * tb + 6) = 1
    · rw [if_neg (nn c6)]
      refine ⟨0, B2, rfl, Or.inr ⟨rfl, fun q => ?_⟩, s2⟩
      rcases q.2 with q | q
      · rw [hr'] at q; exact c5 q
      · rw [hr'] at q; exact q.1 c6
    rw [if_pos c6]
    have z6 : r' (7 * tb + 6) = 0 := ((R2.2.2.1 tb hb).2.2.2.2.2.1).resolve_right c6
    obtain ⟨g, rfl⟩ : ∃ x, g = x + 1 := ⟨g - 1, by omega⟩
    generalize hY : (fun (q27 : Int32) (S26 : zS) => zb (f_X12_opensBy_g (g + 1) _ _ _ S26) fun r29 S28 => _) = Y
    obtain ⟨row2, w1, w2, w3⟩ := r_cp107 (hub := f_X12_opensBy_g (g + 1)) (ex := Y) (i1 := Int32.ofNat c) (i2 := Int32.ofNat (n + 1 + 1)) (i4 := hole) (i5 := Int32.ofNat (7 * tb)) (d := d) (by omega) 66 0 zN B2 (by omega) (by unfold zN; omega)
    refine (fun {P} (h : P) => h) ?_
    rw [show f_X12_opensFirst_o_L107 (f_X12_opensBy_g (g + 1)) Y (Int32.ofNat c) (Int32.ofNat (n + 1 + 1)) (Int32.ofNat d) hole (Int32.ofNat (7 * tb)) zN 0 B2 = Y 66 (sR B2 59 row2) from w1, ← hY]
    dsimp only
    have s3 : sSo d B2 (sR B2 59 row2) := sSo.s59 (fun k hk => w3 k (by omega))
    have K3 : Sk W nj nh nt (M + 60 * (d + 1)) (d + 1) r' A (sR B2 59 row2) := by
      refine ⟨(s2.tr s3).told T, (s2.tr s3).law K.2.1, ?_⟩
      rw [sR_ne _ _ (by decide)]
      exact R2.cg (fun _ _ => rfl) (fun k hk => by rw [sR_at]; exact w2 k (by omega) hk)
    generalize sR B2 59 row2 = B3 at s3 K3 ⊢
    obtain ⟨v, B4, x1, x2, x3⟩ := r_opBl (hub := f_X12_opensBy_g g) (hole := hole) (B := B3) (P := fun c' => opF (actM loC W (A.1 13) (fun k => A.1 13 (24 + k)) (fun k => A.1 13 (54 + k)) nj nh tb) (acN nh nt hole) tb c' n r') (n := n + 1) (d := d + 1) (fun c' B' hc' hs' => ih g (d + 1) c' r' B' (by omega) (by omega) hc' (K3.of hs') a64 z6) 160 0 zN B3 (by omega) (by unfold zN; omega) (sSo.rfl' _ _)
    have y1 : f_X12_opensBy_g (g + 1) (Int32.ofNat (n + 1 + 1) - 1) (Int32.ofNat d + 1) hole B3 = some (v, B4) := by
      rw [io_mm (by omega), io_sc]
      exact x1
    rw [y1, zbE]
    have s4 := (s2.tr s3).tr x3.dn
    rcases x2 with ⟨rfl, c', x2⟩ | ⟨rfl, x2⟩
    · rw [if_pos (Or.inr rfl)]
      exact ⟨1, B4, rfl, Or.inl ⟨rfl, ha, Or.inr ⟨by rw [hr']; exact c6, by rw [hr']; exact ⟨c', x2⟩⟩⟩, s4⟩
    · rw [if_pos (Or.inl rfl)]
      refine ⟨0, B4, rfl, Or.inr ⟨rfl, fun q => ?_⟩, s4⟩
      rcases q.2 with q | q
      · rw [hr'] at q; exact c5 q
      · obtain ⟨-, c', q1, q2⟩ := q
        rw [hr'] at q2
        exact x2 c' (Nat.zero_le _) q1.1 ⟨q1, q2⟩
end SD
