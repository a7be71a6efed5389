/-! soonest: both sides. -/
section SK
variable {W : zLw} {nj nh nt tb M : Nat} {hole : Int32} {A B A0 B0 : zS} {r q : Nat → Int32}
/-- what both ask of a first act, if no shorter row opens it -/
theorem ask_eq {T jT : Nat → Int32} {n c : Nat} (hb : tb < 4) (n4 : nj ≤ 4) (n6 : nh ≤ 6) (n44 : nt ≤ 4) (hM : M < 900000) (h3 : ∀ h, h < nh → 0 ≤ (T (24 + (5 * h + 3))).toInt) (R : RowOk jT nj (M + 60) (actM loC W T (fun k => T (24 + k)) (fun k => T (54 + k)) nj nh tb c r)) (hc : acN nh nt hole c) (h1 : 1 ≤ n) (hn : n ≤ 3)
    (hs : ∀ n', 1 ≤ n' → n' < n → ¬ opF (actM loC W T (fun k => T (24 + k)) (fun k => T (54 + k)) nj nh tb) (acN nh nt hole) tb c (n' - 1) r) :
    opF (actM loC W T (fun k => T (24 + k)) (fun k => T (54 + k)) nj nh tb) (acN nh nt hole) tb c (n - 1) r ↔ cON (actM loC W T (fun k => T (24 + k)) (fun k => T (54 + k)) nj nh tb) (acN nh nt hole) W T (fun k => T (24 + k)) (fun k => T (54 + k)) nh nt tb n c r := by
  rcases (show n = 1 ∨ n = 2 ∨ n = 3 by omega) with rfl | rfl | rfl
  · unfold cON
    rw [if_pos rfl]
    exact soon1 hc
  · unfold cON
    rw [if_neg (by decide), if_pos rfl]
    exact soon2 hb n4 n6 n44 hc (fun z => hs 1 (by omega) (by omega) ((soon1 hc).mpr z))
  · unfold cON
    rw [if_neg (by decide), if_neg (by decide)]
    have k1 := fun z => hs 1 (by omega) (by omega) ((soon1 hc).mpr z)
    exact soon3 (M := M + 60) hb n4 n6 n44 (by omega) h3 R hc k1 (fun z => hs 2 (by omega) (by omega) ((soon2 hb n4 n6 n44 hc k1).mpr z))
theorem c_soonL {n k : Nat} {a : Nat → Nat} {T : Nat → Int32} {i3 : Int32} (hn : n ≤ 41) (hk : k ≤ 3) (hM : M < 900000) (T0 : ITold nj nh nt A0 B0) (eT : T = A0.1 13) (I : IRow (B0.1 46) nj M r q) (h64 : r 64 = Int32.ofNat tb) (h6 : r (7 * tb + 6) = 0) (hb : tb < 4) (hbn : tb < nj) : ∀ (m l f : Nat) (A : zS), l + m = k + 1 → m < f → 1 ≤ l → Cx W nj nh nt tb T A → Lst nh nt hole 160 n a A → A.1 18 = r →
    (∀ n', 1 ≤ n' → n' < l → ∀ c', c' < 160 → ¬ opF (actM loC W T (fun k => T (24 + k)) (fun k => T (54 + k)) nj nh tb) (acN nh nt hole) tb c' (n' - 1) r) →
    ∃ v A', f_X11_soonest_L76 (fun (q25 : Int32) (S24 : zS) => some ((-1000000), S24)) (Int32.ofNat k) hole i3 f (Int32.ofNat l) A = some (v, A') ∧ SoonV (fun n c => opF (actM loC W T (fun k => T (24 + k)) (fun k => T (54 + k)) nj nh tb) (acN nh nt hole) tb c (n - 1) r) k i3 v ∧ sU A A' := by
  have t11 := T0.2.2.2.2.2.2.2.2.2.2
  have n4 := t11.1
  have n6 := t11.2.1
  have n44 := t11.2.2.1
  have h3 : ∀ h, h < nh → 0 ≤ (T (24 + (5 * h + 3))).toInt := fun h hh => by
    rw [eT, T0.2.2.2.2.2.2.2.2.1 _ (by omega)]
    exact (t11.2.2.2.2.2.2.1 h hh).2.2.2.1.1
  have RA : ∀ c, acN nh nt hole c → RowOk (B0.1 46) nj (M + 60) (actM loC W T (fun k => T (24 + k)) (fun k => T (54 + k)) nj nh tb c r) := fun c hc => by
    have := (act_row (W := W) T0 I (by omega) hb hbn h6 hc.2.1).2
    rw [← eT] at this
    exact this
  intro m
  induction m with
  | zero =>
    intro l f A hi hf l1 C L e18 p
    obtain ⟨f, rfl⟩ : ∃ g, f = g + 1 := ⟨f - 1, by omega⟩
    refine ⟨-1000000, A, ?_, Or.inr ⟨fun n' q1 q2 c hc => p n' q1 (by omega) c hc, rfl⟩, sU.rfl' A⟩
    unfold f_X11_soonest_L76
    rw [if_pos ((io_lt (by omega) (by omega)).mpr (by omega))]
  | succ m ih =>
    intro l f A hi hf l1 C L e18 p
    obtain ⟨f, rfl⟩ : ∃ g, f = g + 1 := ⟨f - 1, by omega⟩
    obtain ⟨A1, s1, C1, x⟩ := c_first (len := l) hn l1 (by omega) hM T0 eT I h64 h6 hb hbn n 0 zN A (by omega) (by unfold zN; omega) C L e18 (fun j hj => by omega)
    have g : ∀ b, b = 26 ∨ b = 27 ∨ b = 18 → A1.1 b = A.1 b := fun b hb => s1.2 b (by omega) (by omega) (by omega) (by omega) (by omega) (by omega) (by omega)
    have eq : ∀ c, acN nh nt hole c → (opF (actM loC W T (fun k => T (24 + k)) (fun k => T (54 + k)) nj nh tb) (acN nh nt hole) tb c (l - 1) r ↔ cON (actM loC W T (fun k => T (24 + k)) (fun k => T (54 + k)) nj nh tb) (acN nh nt hole) W T (fun k => T (24 + k)) (fun k => T (54 + k)) nh nt tb l c r) := fun c hc => ask_eq hb n4 n6 n44 hM h3 (RA c hc) hc l1 (by omega) (fun n' q1 q2 => p n' q1 q2 c hc.1)
    unfold f_X11_soonest_L76
    rw [if_neg (show ¬ Int32.ofNat k < Int32.ofNat l from fun q => by have := (io_lt (by omega) (by omega)).mp q; omega)]
    unfold f_X8_firstOf_17
    rcases x with ⟨j, j1, j2, j3, j4⟩ | ⟨j2, j3⟩
    · have aj := L.2.2.2.1 j j1
      rw [show f_X8_firstOf_17_L2 (fun (q37 : Int32) (S36 : zS) => some ((-1), S36)) (Int32.ofNat l) zN 0 A = _ from j2, zbE, if_neg (io_ne1 (by have := aj.2; omega))]
      refine ⟨if ¬ i3 = 0 then Int32.ofNat (a j) else Int32.ofNat l, A1, ?_, Or.inl ⟨l, a j, l1, by omega, aj.2, (eq _ aj.1).mpr j3, fun c' hc' z => ?_, p, rfl⟩, s1⟩
      · by_cases e : i3 = 0
        · rw [if_neg (nn e), if_neg (nn e)]
        · rw [if_pos e, if_pos e]
      · obtain ⟨j', y1, y2⟩ := L.2.2.2.2 c' z.1 z.1.1
        have : j' < j := by
          rcases Nat.lt_trichotomy j' j with w | w | w
          · exact w
          · rw [← y2, w] at hc'; omega
          · have := L.2.2.1 j j' w y1; omega
        exact j4 j' this (by rw [y2]; exact (eq c' z.1).mp z)
    · rw [show f_X8_firstOf_17_L2 (fun (q37 : Int32) (S36 : zS) => some ((-1), S36)) (Int32.ofNat l) zN 0 A = _ from j2, zbE, if_pos rfl, zlE, io_sc]
      obtain ⟨v, A2, x1, x2, x3⟩ := ih (l + 1) f A1 (by omega) (by omega) (by omega) C1 (L.cg (g 26 (by decide)) (g 27 (by decide))) (by rw [g 18 (by decide)]; exact e18) (fun n' q1 q2 c hc z => by
        by_cases e : n' = l
        · rw [e] at z
          obtain ⟨j', y1, y2⟩ := L.2.2.2.2 c z.1 z.1.1
          exact j3 j' y1 (by rw [y2]; exact (eq c z.1).mp z)
        · exact p n' q1 (by omega) c hc z)
      exact ⟨v, A2, x1, x2, s1.tr x3⟩
theorem op_soonest (H : InvD 0 M nj nh nt A B) (hM : M < 900000) (v1 v2 v3 : Int32) : Sim M (f_X11_soonest v1 v2 v3 A) (f_X12_soonest v1 v2 v3 B) := by
  have H0 := H.thr 0
  unfold f_X11_soonest f_X12_soonest
  rw [zlE]
  generalize sV B 41 0 0 = B0 at H0 ⊢
  have T := H0.told
  have R := H0.row
  have i1 : (1 : Int64).toInt = 1 := by decide
  have i3 : (3 : Int64).toInt = 3 := by decide
  have i0 : (0 : Int64).toInt = 0 := by decide
  have j1 : (1 : Int32).toInt = 1 := by decide
  have j3 : (3 : Int32).toInt = 3 := by decide
  rw [T.2.2.2.1, T.2.2.2.2.2.2.1]
  by_cases hj : nj = 0
  · rw [if_pos hj, if_pos rfl, hj, if_pos (show Int32.ofNat 0 = 0 from rfl)]
    exact Sim.no H0 _
  rw [if_neg hj, if_neg (show ¬ (1 : Int32) = 0 by decide), if_neg (show ¬ Int32.ofNat nj = 0 from fun q => hj ((io_eq (b := 0) (by have := T.2.2.2.2.2.2.2.2.2.2.1; omega) (by omega)).mp q)), r_isIn, zbE, i1, i3]
  by_cases c1 : 1 ≤ v1.toInt ∧ v1.toInt ≤ 3
  rotate_left
  · rw [if_neg c1, if_pos rfl]
    by_cases c : v1 < 1
    · rw [if_pos c]
      exact Sim.no H0 _
    · rw [if_neg c, if_pos (Int32.lt_iff_toInt_lt.mpr (by rw [Int32.lt_iff_toInt_lt, j1] at c; rw [j3]; omega))]
      exact Sim.no H0 _
  rw [if_pos c1, if_neg (show ¬ (1 : Int32) = 0 by decide), if_neg (show ¬ v1 < 1 from fun q => by rw [Int32.lt_iff_toInt_lt, j1] at q; omega), if_neg (show ¬ 3 < v1 from fun q => by rw [Int32.lt_iff_toInt_lt, j3] at q; omega), r_isIn, zbE, i0, i1]
  by_cases c3 : 0 ≤ v3.toInt ∧ v3.toInt ≤ 1
  rotate_left
  · rw [if_neg c3, if_pos rfl]
    by_cases c : v3 < 0
    · rw [if_pos c]
      exact Sim.no H0 _
    · rw [if_neg c, if_pos (Int32.lt_iff_toInt_lt.mpr (by rw [i_lt0] at c; rw [j1]; omega))]
      exact Sim.no H0 _
  rw [if_pos c3, if_neg (show ¬ (1 : Int32) = 0 by decide), if_neg (show ¬ v3 < 0 from fun q => by rw [i_lt0] at q; omega), if_neg (show ¬ 1 < v3 from fun q => by rw [Int32.lt_iff_toInt_lt, j1] at q; omega)]
  obtain ⟨tb, hb, hbn, h64⟩ := R.2.1
  have hbn : tb < nj := hbn.resolve_left hj
  have k64 : B0.1 54 64 = Int32.ofNat tb := by rw [← R.1.pl (k := 64) (by omega)]; exact h64
  have p5 := R.1.pl (k := 7 * tb + 5) (by omega)
  have p6 := R.1.pl (k := 7 * tb + 6) (by omega)
  rw [c_lid (x := 6) (c := 6) (o := 17) h64 hb (by decide) rfl, zbE, c_lid (x := 5) (c := 5) (o := 17) h64 hb (by decide) rfl, zbE, k64, ix_m7, ix_p6, ix_p5, io_in (by omega) (by omega), io_in (by omega) (by omega), if_pos rfl, if_pos rfl, io_cl (by omega), io_cl (by omega), ← p5, ← p6]
  show Sim M (if ¬ A.1 18 (7 * tb + 6) = 1 then _ else _) _
  by_cases c6 : A.1 18 (7 * tb + 6) = 1
  · rw [if_neg (nn c6), if_neg (nn c6)]
    exact Sim.no H0 _
  rw [if_pos c6, if_pos c6]
  show Sim M (if ¬ A.1 18 (7 * tb + 5) = 1 then _ else _) _
  by_cases c5 : A.1 18 (7 * tb + 5) = 1
  · rw [if_neg (nn c5), if_neg (nn c5)]
    by_cases c0 : v3 = 0
    · rw [if_neg (nn c0), if_neg (nn c0)]
      exact Sim.no H0 _
    · rw [if_pos c0, if_pos c0]
      exact Sim.no H0 _
  rw [if_pos c5, if_pos c5]
  obtain ⟨k, hk⟩ : ∃ k : Nat, v1.toInt = k := ⟨v1.toInt.toNat, by omega⟩
  have ek := ti_ofn hk
  subst ek
  have h6 : A.1 18 (7 * tb + 6) = 0 := ((R.2.2.1 tb hb).2.2.2.2.2.1).resolve_right c6
  have t11 := T.2.2.2.2.2.2.2.2.2.2
  obtain ⟨W, w1, w2⟩ := H0.law
  obtain ⟨v, B', x1, x2, x3⟩ := r_soonest (hole := v2) (i3 := v3) (k := k) hb hbn hM (by omega) (by omega) T w2 R h64 h6
  obtain ⟨n, a, A1, y1, y2, y3, y4, y5⟩ := c_prepare (A := A) (hole := v2) t11.2.1 (t11.2.2.2.2.1 (by omega)) t11.2.2.1 T.2.1 T.2.2.1
  have g : ∀ b, b ≠ 26 → b ≠ 27 → b ≠ 30 → A1.1 b = A.1 b := y4.2
  have C : Cx W nj nh nt tb (A.1 13) A1 := ⟨w1.of (by rw [y4.1]) (by rw [y4.1]) (fun b hb => g b (by omega) (by omega) (by omega)), by rw [g 12 (by decide) (by decide) (by decide)]; exact T.1, by rw [g 12 (by decide) (by decide) (by decide)]; exact T.2.1, by rw [g 12 (by decide) (by decide) (by decide)]; exact T.2.2.1, g 13 (by decide) (by decide) (by decide), fun h hh => ⟨0, by omega, y5 h hh, fun i hi => by omega⟩⟩
  obtain ⟨v', A2, z1, z2, z3⟩ := c_soonL (hole := v2) (i3 := v3) (k := k) (n := n) (a := a) y3 (by omega) hM T rfl R h64 h6 hb hbn k 1 zN A1 (by omega) (by unfold zN; omega) (by omega) C y2 (g 18 (by decide) (by decide) (by decide)) (fun n' q1 q2 => by omega)
  have ev := z2.one x2
  subst ev
  rw [y1, zbE]
  refine ⟨v', A2, B', z1, x1, (H0.obs ?_ (x3.obs H0.longR)).sim⟩
  have f2 : A2.2 = A.2 := z3.1.trans y4.1
  have f1 : ∀ b, b ≠ 15 → b ≠ 16 → b ≠ 26 → b ≠ 27 → b ≠ 28 → b ≠ 29 → b ≠ 30 → b ≠ 32 → b ≠ 34 → A2.1 b = A.1 b := fun b q1 q2 q3 q4 q5 q6 q7 q8 q9 => (z3.2 b q1 q2 q5 q6 q7 q8 q9).trans (g b q3 q4 q7)
  refine ⟨fun b hb => f1 b (by omega) (by omega) (by omega) (by omega) (by omega) (by omega) (by omega) (by omega) (by omega), by rw [f1 1 (by decide) (by decide) (by decide) (by decide) (by decide) (by decide) (by decide) (by decide) (by decide)], by rw [f2], fun b k _ => by rw [f2], by rw [f2]; exact H0.longC⟩
end SK
