/-! The reference reads a law: sums. -/
section OD
variable {b : Nat → Int32} {n : Nat} {S : zS} {i : Nat} {f w : Int32} {e : Nat → Int32}
theorem r_numL (T : RTx S b n) (hub : zS → Option (Int32 × zS)) {i1 : Int32} : ∀ (d i fu x3 : Nat) (v : Int32), x3 + d = 4 → i ≤ n → d < fu →
    f_X12_atom_o_L90 hub (fun (q34 : Int32) (q35 : Int32) (S33 : zS) => some (q34, S33)) i1 fu v (Int32.ofNat x3) (rS S i (-1) w) = if (pnum b n d i v).1 < n ∧ 48 ≤ b (pnum b n d i v).1 ∧ b (pnum b n d i v).1 ≤ 57 then some (0, rS S (pnum b n d i v).1 (Int32.ofNat (pnum b n d i v).1) w) else some ((pnum b n d i v).2, rS S (pnum b n d i v).1 (-1) w)
  | 0, i, fu, x3, v, h3, hi, hf => by
    obtain ⟨z, rfl⟩ : ∃ z, fu = z + 1 := ⟨fu - 1, by omega⟩
    have hx : x3 = 4 := by omega
    subst hx
    rw [f_X12_atom_o_L90, r_isDigit T hi, zbE, pnum]
    by_cases q : i < n ∧ 48 ≤ b i ∧ b i ≤ 57
    · rw [if_pos q, if_neg (show ¬ (1 : Int32) = 0 by decide), rS_11, if_neg (fun q => q rfl), if_neg (fun q => q rfl), r_fails1, zbE, if_pos q]
    · rw [if_neg q, if_pos rfl, if_neg q]
  | d + 1, i, fu, x3, v, h3, hi, hf => by
    obtain ⟨z, rfl⟩ : ∃ z, fu = z + 1 := ⟨fu - 1, by omega⟩
    rw [f_X12_atom_o_L90, r_isDigit T hi, zbE, pnum]
    by_cases q : i < n ∧ 48 ≤ b i ∧ b i ≤ 57
    · rw [if_pos q, if_neg (show ¬ (1 : Int32) = 0 by decide), rS_11, if_neg (fun q => q rfl), if_pos (fun q => by have := (io_eq (b := 4) (by omega) (by omega)).mp q; omega), if_pos q]
      obtain ⟨y, y1, y2⟩ := r_byte (i := i) (f := -1) (w := w) T q.1 (fun y => f_X12_atom_o_L90 hub (fun (q34 : Int32) (q35 : Int32) (S33 : zS) => some (q34, S33)) i1 z (10 * v + y - 48) (Int32.ofNat (x3 + 1)) (rS S (i + 1) (-1) w)) (fun a21 =>
        if a21 = 42 then
        if ia_in ((rS S i (-1) w).1 41 8 + (rS S i (-1) w).1 41 10) 200 = true then
        zl (((10 * v) + ((rS S i (-1) w).1 42 ((rS S i (-1) w).1 41 8 + (rS S i (-1) w).1 41 10).toNatClampNeg)) - 48) fun (y23 : Int32) =>
        zl (sV (rS S i (-1) w) 41 10 (((rS S i (-1) w).1 41 10) + 1)) fun S24 =>
        zl (Int32.ofNat x3 + 1) fun (y25 : Int32) =>
        f_X12_atom_o_L90 hub (fun (q34 : Int32) (q35 : Int32) (S33 : zS) => some (q34, S33)) i1 z y23 y25 S24
        else none
        else if a21 = 43 then
        if ia_in ((rS S i (-1) w).1 41 8 + (rS S i (-1) w).1 41 10) 800 = true then
        zl (((10 * v) + ((rS S i (-1) w).1 43 ((rS S i (-1) w).1 41 8 + (rS S i (-1) w).1 41 10).toNatClampNeg)) - 48) fun (y27 : Int32) =>
        zl (sV (rS S i (-1) w) 41 10 (((rS S i (-1) w).1 41 10) + 1)) fun S28 =>
        zl (Int32.ofNat x3 + 1) fun (y29 : Int32) =>
        f_X12_atom_o_L90 hub (fun (q34 : Int32) (q35 : Int32) (S33 : zS) => some (q34, S33)) i1 z y27 y29 S28
        else none
        else none) (by rw [if_pos rfl, zlE, zlE, zlE, rS_up, io_sc]) (by rw [if_neg (by decide), if_pos rfl, zlE, zlE, zlE, rS_up, io_sc])
      refine y2.trans ?_
      rw [y1.dg.2 q.2, Int32.mul_comm 10 v]
      exact r_numL T hub d (i + 1) z (x3 + 1) _ (by omega) (by omega) (by omega)
    · rw [if_neg q, if_pos rfl, if_neg q, if_neg q]
theorem nn {p : Prop} (h : p) : ¬ ¬ p := fun q => q h
def anyV (_ : Int32) : Prop := True
def bolV (v : Int32) : Prop := v = 0 ∨ v = 1
theorem letR_dg {x : Int32} {l : Nat} (h : letR x = some l) : ¬ (48 ≤ x ∧ x ≤ 57) := by
  obtain ⟨h1, -, rfl⟩ := letR_v h
  rcases (show l = 0 ∨ l = 1 ∨ l = 2 ∨ l = 3 ∨ l = 4 ∨ l = 5 by omega) with rfl | rfl | rfl | rfl | rfl | rfl <;> decide
theorem RLt.at (L : RLt S e) {x : Int32} {l : Nat} (h : letR x = some l) : ia_in x 128 = true ∧ S.1 45 x.toNatClampNeg = e l := by
  obtain ⟨l0, l1, l2, l3, l4, l5⟩ := L
  obtain ⟨h1, -, rfl⟩ := letR_v h
  rcases (show l = 0 ∨ l = 1 ∨ l = 2 ∨ l = 3 ∨ l = 4 ∨ l = 5 by omega) with rfl | rfl | rfl | rfl | rfl | rfl
  · exact ⟨by decide, l0⟩
  · exact ⟨by decide, l1⟩
  · exact ⟨by decide, l2⟩
  · exact ⟨by decide, l3⟩
  · exact ⟨by decide, l4⟩
  · exact ⟨by decide, l5⟩
theorem dg_no {x : Int32} (h : 48 ≤ x ∧ x ≤ 57) : letR x = none ∧ x ≠ 91 := by
  constructor
  · cases hl : letR x with
    | none => rfl
    | some l => exact absurd h (letR_dg hl)
  · intro q
    subst q
    exact absurd h (by decide)
theorem r_atom (T : RTx S b n) (L : RLt S e) {hub : Nat → Nat → zPR} {hubR : zS → Option (Int32 × zS)} {v : Nat} (hv : v ≤ 6) (hi : i ≤ n) (hh : v < 6 → ∀ j, j ≤ n → rOK anyV n S e (Int32.ofNat (v + 1)) (hub (v + 1) j) (hubR (rS S j (-1) (Int32.ofNat (v + 1))))) (hg : v < 6 → ∀ j, j ≤ n → gM n j (51 + 2 * v) PS (hub (v + 1) j)) :
    rOK anyV n S e (Int32.ofNat v) (pAtom b n hub v i) (f_X12_atom_o hubR (rS S i (-1) (Int32.ofNat v))) := by
  have n2 := T.1
  have s1 := sk_ge (b := b) hi
  have s2 := sk_le (b := b) hi
  have TB := T.tx
  unfold f_X12_atom_o
  rw [r_look T hi, zbE, r_am_4, zbE, ax4_let, lk_let]
  unfold pAtom
  by_cases q : 48 ≤ pk b n i ∧ pk b n i ≤ 57
  · obtain ⟨q1, q2⟩ := dg_no q
    have lt : sk b n i < n := by
      refine pkn_lt rfl (fun z => ?_)
      rw [z] at q
      exact absurd q.1 (by decide)
    have q' : 48 ≤ b (sk b n i) ∧ b (sk b n i) ≤ 57 := by rw [← pk_of lt]; exact q
    have l91 : ¬ lk b n i = 91 := by rw [lk_eq (by decide) (by decide)]; exact q2
    have rn := r_numL (w := Int32.ofNat v) T hubR (i1 := lk b n i) 4 (sk b n i) zN 0 0 rfl s2 (by unfold zN; omega)
    rw [if_pos q, q1, if_pos rfl, if_pos rfl, if_pos l91, r_isDigit T s2, zbE, zlE, if_pos (show sk b n i < n ∧ 48 ≤ b (sk b n i) ∧ b (sk b n i) ≤ 57 from ⟨lt, q'⟩), if_pos (show ¬ (1 : Int32) = 0 by decide)]
    show rOK anyV n S e (Int32.ofNat v) _ (f_X12_atom_o_L90 hubR (fun (q34 : Int32) (q35 : Int32) (S33 : zS) => some (q34, S33)) (lk b n i) zN 0 (Int32.ofNat 0) (rS S (sk b n i) (-1) (Int32.ofNat v)))
    rw [rn]
    have p2 := (pnum_i (b := b) 4 (sk b n i) 0 s2).2
    by_cases q3 : (pnum b n 4 (sk b n i) 0).1 < n ∧ 48 ≤ b (pnum b n 4 (sk b n i) 0).1 ∧ b (pnum b n 4 (sk b n i) 0).1 ≤ 57
    · rw [if_pos q3, if_pos q3]
      exact rOK_l p2 trivial rfl
    · rw [if_neg q3, if_neg q3]
      obtain ⟨m', e1, e2⟩ := pnum_v TB 4 (sk b n i) 0 (by decide)
      have e1' : (pnum b n 4 (sk b n i) 0).2 = Int32.ofNat m' := e1
      rw [e1', show (2000 : Int32) + Int32.ofNat m' = Int32.ofNat (2000 + m') by rw [Int32.ofNat_add]; rfl]
      exact rOK_r trivial (fun _ => ((ex_num (H := 0) (by decide) e2).2 e).symm) rfl
  · rw [if_neg q]
    cases hl : letR (pk b n i) with
    | some l =>
      obtain ⟨l1, l2, -⟩ := letR_v hl
      have lt : sk b n i < n := pkn_lt rfl l2
      have el : lk b n i = pk b n i := by
        unfold lk
        rw [if_pos lt, pk_of lt]
      rw [if_neg (show ¬ (some l = none) by simp), if_neg (show ¬ (1 : Int32) = 0 by decide), zlE, rS_up, el]
      obtain ⟨a1, a2⟩ := L.at hl
      show rOK anyV n S e (Int32.ofNat v) (.inr (sk b n i + 1, [1000 + Int32.ofNat l])) _
      rw [if_pos a1, rS_b (by decide), a2, ix_k1000]
      exact rOK_r trivial (fun _ => ((ex_let (H := 0) (by decide) l1).2 e).symm) rfl
    | none =>
      rw [if_pos rfl, if_pos rfl]
      show rOK anyV n S e (Int32.ofNat v) (if pk b n i = 91 then (if v < 6 then pB (hub (v + 1) (sk b n i + 1)) (fun i' c => pNeed b n 93 i' c) else .inl (sk b n i)) else .inl (sk b n i)) _
      by_cases q3 : pk b n i = 91
      · have lt : sk b n i < n := pkn_lt q3 (by decide)
        have l91 : lk b n i = 91 := by rw [lk_eq (by decide) (by decide)]; exact q3
        rw [if_pos q3, if_neg (nn l91)]
        by_cases q4 : v < 6
        · rw [if_pos q4, r_goesIn1 q4, zbE, if_pos (show ¬ (1 : Int32) = 0 by decide)]
          refine rOK_b (hh q4 (sk b n i + 1) (by omega)) (fun i' c r hm _ hr => ?_) (fun x r i' w' hx _ => ?_)
          · have g2 := (hg q4 (sk b n i + 1) (by omega) i' c hm).2.1
            rw [r_takes1 T g2 (by decide) (by decide)]
            unfold pNeed
            by_cases q5 : pk b n i' = 93
            · rw [if_pos q5, if_pos q5, zbE, if_pos (show ¬ (1 : Int32) = 0 by decide), zlE, rS_12, io_mm (by omega), rS_s12]
              exact rOK_r trivial hr rfl
            · rw [if_neg q5, if_neg q5, zbE, if_neg (fun h => h rfl)]
              exact rOK_l (sk_le g2) trivial rfl
          · rw [r_takes0 (by omega), zbE, if_neg (fun h => h rfl)]
            exact ⟨_, _, _, trivial, rfl⟩
        · have v6 : v = 6 := by omega
          subst v6
          rw [if_neg q4, r_goesIn0, zbE, if_neg (fun h => h rfl)]
          exact rOK_l s2 trivial rfl
      · have l91 : ¬ lk b n i = 91 := by rw [lk_eq (by decide) (by decide)]; exact q3
        have nd : ¬ (sk b n i < n ∧ 48 ≤ b (sk b n i) ∧ b (sk b n i) ≤ 57) := fun h => q (by rw [pk_of h.1]; exact h.2)
        rw [if_neg q3, if_pos l91, r_isDigit T s2, zbE, zlE, if_neg nd, if_neg (fun h => h rfl), r_fails1, zbE]
        refine rOK_l s2 trivial (v := 0) (i' := sk b n i) (w' := Int32.ofNat v) ?_
        show f_X12_atom_o_L90 hubR (fun (q34 : Int32) (q35 : Int32) (S33 : zS) => some (q34, S33)) (lk b n i) (4999 + 1) 0 0 (rS S (sk b n i) (Int32.ofNat (sk b n i)) (Int32.ofNat v)) = _
        rw [f_X12_atom_o_L90, r_isDigit T s2, zbE, if_neg nd, if_pos rfl]
theorem lg_0 {x : Int64} : lg_cmp x 0 = 0 ↔ x.toInt = 0 := by
  have p := lg_p x 0
  have q := lg_n x 0
  have z : (0 : Int64).toInt = 0 := by decide
  rw [z] at p q
  rw [Int32.lt_iff_toInt_lt, ti_0] at p q
  constructor
  · intro h
    rw [h, ti_0] at p q
    omega
  · intro h
    apply ti_inj
    rw [ti_0]
    omega
theorem t64 (x : Int32) : x.toInt64.toInt = x.toInt := Int32.toInt_toInt64 x
theorem t64_0 {x : Int32} : lg_cmp x.toInt64 0 = 0 ↔ x = 0 := by
  rw [lg_0, t64]
  exact ⟨fun h => ti_inj (by rw [h, ti_0]), fun h => by rw [h, ti_0]⟩
theorem t64_n {x : Int32} (h : x ≠ 0) : ¬ x.toInt64 = 0 := fun q => h (t64_0.mp (by rw [q]; decide))
theorem r_within (x : Int64) (S : zS) : f_X12_within x S = some (lim64 x, S) := rfl
theorem r_term0 {hub : zS → Option (Int32 × zS)} {ex : Int32 → zS → Option (Int32 × zS)} {z y : Nat} (hy : y < 2147483648) (x : Int32) : f_X12_term_o_L5 hub ex (z + 1) x (rS S i (Int32.ofNat y) w) = ex x (rS S i (Int32.ofNat y) w) := by
  rw [f_X12_term_o_L5, rS_11, if_pos (io_ne1 hy)]
theorem r_sum0 {hub : zS → Option (Int32 × zS)} {ex : Int32 → zS → Option (Int32 × zS)} {z y : Nat} (hy : y < 2147483648) (x : Int32) : f_X12_sum_o_L5 hub ex (z + 1) x (rS S i (Int32.ofNat y) w) = ex x (rS S i (Int32.ofNat y) w) := by
  rw [f_X12_sum_o_L5, rS_11, if_pos (io_ne1 hy)]
theorem r_termL (T : RTx S b n) (L : RLt S e) {hub : Nat → Nat → zPR} {hubR : zS → Option (Int32 × zS)} {v : Nat} (hv : v ≤ 6) (hh : v < 6 → ∀ j, j ≤ n → rOK anyV n S e (Int32.ofNat (v + 1)) (hub (v + 1) j) (hubR (rS S j (-1) (Int32.ofNat (v + 1))))) (hg : v < 6 → ∀ j, j ≤ n → gM n j (51 + 2 * v) PS (hub (v + 1) j)) :
    ∀ (k i fu : Nat) (c : List Int32) (x : Int32), i ≤ n → 201 ≤ i + k → k < fu → exOK (50 + 2 * v) c → PS c → (eB e → x = ev e c) → rOK anyV n S e (Int32.ofNat v) (pTermL b n hub v k i c) (f_X12_term_o_L5 hubR (fun (q38 : Int32) (S37 : zS) => some (q38, S37)) fu x (rS S i (-1) (Int32.ofNat v)))
  | 0, i, fu, c, x, hi, hk, hf, h4, h5, hx => by
    have n2 := T.1
    omega
  | k + 1, i, fu, c, x, hi, hk, hf, h4, h5, hx => by
    obtain ⟨z, rfl⟩ : ∃ z, fu = z + 1 := ⟨fu - 1, by omega⟩
    obtain ⟨z', rfl⟩ : ∃ z', z = z' + 1 := ⟨z - 1, by omega⟩
    have n2 := T.1
    have TB := T.tx
    have s1 := sk_ge (b := b) hi
    have s2 := sk_le (b := b) hi
    rw [f_X12_term_o_L5, rS_11, if_neg (fun q => q rfl), r_look T hi, zbE, pTermL]
    simp only [r_look T s2, sk_sk hi, lk_sk hi, lk_eq (show (42 : Int32) ≠ 0 by decide) (by decide), lk_eq (show (47 : Int32) ≠ 0 by decide) (by decide), rS_up, zlE, zbE, r_within]
    by_cases q1 : pk b n i = 42
    · have lt : sk b n i < n := pkn_lt q1 (by decide)
      rw [if_pos (Or.inl q1), if_pos q1, if_neg (nn q1), q1]
      refine rOK_b (r_atom T L hv (show sk b n i + 1 ≤ n by omega) hh hg) (fun i1 c1 r hm _ hr => ?_) (fun y r i' w' hy _ => ?_)
      · obtain ⟨g1, g2, g3, g4, g5⟩ := pAtom_g TB hv (show sk b n i + 1 ≤ n by omega) hg i1 c1 hm
        obtain ⟨x1, x2⟩ := ex_join h4 (show exOK (50 + 2 * v + 1) c1 from g4.mono (by omega)) (o := 42) (by unfold jnOk; simp)
        rw [if_neg (show ¬ (1 : Int32) = 0 by decide)]
        refine r_termL T L hv hh hg k i1 (z' + 1) _ _ g2 (by omega) (by omega) x1 (PS.join x2 (by simp)) (fun hb => ?_)
        rw [x2, hx hb, hr hb]
        rfl
      · rw [if_neg (show ¬ (1 : Int32) = 0 by decide), r_term0 (by omega)]
        exact ⟨_, _, _, trivial, rfl⟩
    · rw [if_neg q1]
      by_cases q2 : pk b n i = 47
      · have lt : sk b n i < n := pkn_lt q2 (by decide)
        rw [if_pos (Or.inr q2), if_neg (nn q2), if_pos q1, q2]
        refine rOK_b (r_atom T L hv (show sk b n i + 1 ≤ n by omega) hh hg) (fun i1 c1 r hm _ hr => ?_) (fun y r i' w' hy _ => ?_)
        · obtain ⟨g1, g2, g3, g4, g5⟩ := pAtom_g TB hv (show sk b n i + 1 ≤ n by omega) hg i1 c1 hm
          obtain ⟨x1, x2⟩ := ex_join h4 (show exOK (50 + 2 * v + 1) c1 from g4.mono (by omega)) (o := 47) (by unfold jnOk; simp)
          rw [if_pos trivial]
          by_cases r0 : r = 0
          · rw [if_neg (fun h => h (t64_0.mpr r0))]
            refine r_termL T L hv hh hg k i1 (z' + 1) _ _ g2 (by omega) (by omega) x1 (PS.join x2 (by simp)) (fun hb => ?_)
            rw [x2, ← hr hb, r0]
            rfl
          · rw [if_pos (fun h => r0 (t64_0.mp h)), if_neg (t64_n r0)]
            refine r_termL T L hv hh hg k i1 (z' + 1) _ _ g2 (by omega) (by omega) x1 (PS.join x2 (by simp)) (fun hb => ?_)
            rw [x2, ← hr hb, ← hx hb]
            show _ = if r = 0 then 0 else lim64 ((x / r).toInt64)
            rw [if_neg r0, div64 (by rw [hx hb]; exact h5 e hb)]
        · rw [if_pos trivial]
          by_cases r0 : r = 0
          · rw [if_neg (fun h => h (t64_0.mpr r0)), r_term0 (by omega)]
            exact ⟨_, _, _, trivial, rfl⟩
          · rw [if_pos (fun h => r0 (t64_0.mp h)), if_neg (t64_n r0), r_term0 (by omega)]
            exact ⟨_, _, _, trivial, rfl⟩
      · rw [if_pos q2, if_neg (fun h => h.elim q1 q2)]
        exact rOK_r trivial hx rfl
theorem r_term (T : RTx S b n) (L : RLt S e) {hub : Nat → Nat → zPR} {hubR : zS → Option (Int32 × zS)} {v : Nat} (hv : v ≤ 6) (hi : i ≤ n) (hh : v < 6 → ∀ j, j ≤ n → rOK anyV n S e (Int32.ofNat (v + 1)) (hub (v + 1) j) (hubR (rS S j (-1) (Int32.ofNat (v + 1))))) (hg : v < 6 → ∀ j, j ≤ n → gM n j (51 + 2 * v) PS (hub (v + 1) j)) :
    rOK anyV n S e (Int32.ofNat v) (pTerm b n hub v i) (f_X12_term_o hubR (rS S i (-1) (Int32.ofNat v))) := by
  have n2 := T.1
  unfold f_X12_term_o pTerm
  refine rOK_b (r_atom T L hv hi hh hg) (fun i1 c1 r hm _ hr => ?_) (fun y r i' w' hy _ => ?_)
  · obtain ⟨g1, g2, g3, g4, g5⟩ := pAtom_g T.tx hv hi hg i1 c1 hm
    exact r_termL T L hv hh hg 200 i1 zN _ _ g2 (by omega) (by unfold zN; omega) (g4.mono (by omega)) g5 hr
  · rw [show zN = 4999 + 1 from rfl, r_term0 (by omega)]
    exact ⟨_, _, _, trivial, rfl⟩
theorem r_sumL (T : RTx S b n) (L : RLt S e) {hub : Nat → Nat → zPR} {hubR : zS → Option (Int32 × zS)} {v : Nat} (hv : v ≤ 6) (hh : v < 6 → ∀ j, j ≤ n → rOK anyV n S e (Int32.ofNat (v + 1)) (hub (v + 1) j) (hubR (rS S j (-1) (Int32.ofNat (v + 1))))) (hg : v < 6 → ∀ j, j ≤ n → gM n j (51 + 2 * v) PS (hub (v + 1) j)) :
    ∀ (k i fu : Nat) (c : List Int32) (x : Int32), i ≤ n → 201 ≤ i + k → k < fu → exOK (49 + 2 * v) c → PS c → (eB e → x = ev e c) → rOK anyV n S e (Int32.ofNat v) (pSumL b n hub v k i c) (f_X12_sum_o_L5 hubR (fun (q33 : Int32) (S32 : zS) => some (q33, S32)) fu x (rS S i (-1) (Int32.ofNat v)))
  | 0, i, fu, c, x, hi, hk, hf, h4, h5, hx => by
    have n2 := T.1
    omega
  | k + 1, i, fu, c, x, hi, hk, hf, h4, h5, hx => by
    obtain ⟨z, rfl⟩ : ∃ z, fu = z + 1 := ⟨fu - 1, by omega⟩
    obtain ⟨z', rfl⟩ : ∃ z', z = z' + 1 := ⟨z - 1, by omega⟩
    have n2 := T.1
    have TB := T.tx
    have s1 := sk_ge (b := b) hi
    have s2 := sk_le (b := b) hi
    rw [f_X12_sum_o_L5, rS_11, if_neg (fun q => q rfl), r_look T hi, zbE, pSumL]
    simp only [r_look T s2, sk_sk hi, lk_sk hi, lk_eq (show (43 : Int32) ≠ 0 by decide) (by decide), lk_eq (show (45 : Int32) ≠ 0 by decide) (by decide), rS_up, zlE, zbE, r_within]
    by_cases q1 : pk b n i = 43
    · have lt : sk b n i < n := pkn_lt q1 (by decide)
      rw [if_pos (Or.inl q1), if_pos q1, if_neg (nn q1), q1]
      refine rOK_b (r_term T L hv (show sk b n i + 1 ≤ n by omega) hh hg) (fun i1 c1 r hm _ hr => ?_) (fun y r i' w' hy _ => ?_)
      · obtain ⟨g1, g2, g3, g4, g5⟩ := pTerm_g TB hv (show sk b n i + 1 ≤ n by omega) hg i1 c1 hm
        obtain ⟨x1, x2⟩ := ex_join h4 (show exOK (49 + 2 * v + 1) c1 from g4.mono (by omega)) (o := 43) (by unfold jnOk; simp)
        rw [if_neg (show ¬ (1 : Int32) = 0 by decide)]
        refine r_sumL T L hv hh hg k i1 (z' + 1) _ _ g2 (by omega) (by omega) x1 (PS.join x2 (by simp)) (fun hb => ?_)
        rw [x2, hx hb, hr hb]
        rfl
      · rw [if_neg (show ¬ (1 : Int32) = 0 by decide), r_sum0 (by omega)]
        exact ⟨_, _, _, trivial, rfl⟩
    · rw [if_neg q1]
      by_cases q2 : pk b n i = 45
      · have lt : sk b n i < n := pkn_lt q2 (by decide)
        rw [if_pos (Or.inr q2), if_neg (nn q2), if_pos q1, q2]
        refine rOK_b (r_term T L hv (show sk b n i + 1 ≤ n by omega) hh hg) (fun i1 c1 r hm _ hr => ?_) (fun y r i' w' hy _ => ?_)
        · obtain ⟨g1, g2, g3, g4, g5⟩ := pTerm_g TB hv (show sk b n i + 1 ≤ n by omega) hg i1 c1 hm
          obtain ⟨x1, x2⟩ := ex_join h4 (show exOK (49 + 2 * v + 1) c1 from g4.mono (by omega)) (o := 45) (by unfold jnOk; simp)
          rw [if_pos trivial]
          refine r_sumL T L hv hh hg k i1 (z' + 1) _ _ g2 (by omega) (by omega) x1 (PS.join x2 (by simp)) (fun hb => ?_)
          rw [x2, hx hb, hr hb]
          rfl
        · rw [if_pos trivial, r_sum0 (by omega)]
          exact ⟨_, _, _, trivial, rfl⟩
      · rw [if_pos q2, if_neg (fun h => h.elim q1 q2)]
        exact rOK_r trivial hx rfl
theorem r_sumO (T : RTx S b n) (L : RLt S e) {hub : Nat → Nat → zPR} {hubR : zS → Option (Int32 × zS)} {v : Nat} (hv : v ≤ 6) (hi : i ≤ n) (hh : v < 6 → ∀ j, j ≤ n → rOK anyV n S e (Int32.ofNat (v + 1)) (hub (v + 1) j) (hubR (rS S j (-1) (Int32.ofNat (v + 1))))) (hg : v < 6 → ∀ j, j ≤ n → gM n j (51 + 2 * v) PS (hub (v + 1) j)) :
    rOK anyV n S e (Int32.ofNat v) (pSumO b n hub v i) (f_X12_sum_o hubR (rS S i (-1) (Int32.ofNat v))) := by
  have n2 := T.1
  unfold f_X12_sum_o pSumO
  refine rOK_b (r_term T L hv hi hh hg) (fun i1 c1 r hm _ hr => ?_) (fun y r i' w' hy _ => ?_)
  · obtain ⟨g1, g2, g3, g4, g5⟩ := pTerm_g T.tx hv hi hg i1 c1 hm
    exact r_sumL T L hv hh hg 200 i1 zN _ _ g2 (by omega) (by unfold zN; omega) (g4.mono (by omega)) g5 hr
  · rw [show zN = 4999 + 1 from rfl, r_sum0 (by omega)]
    exact ⟨_, _, _, trivial, rfl⟩
theorem r_sumG (T : RTx S b n) (L : RLt S e) : ∀ (g v i : Nat), 7 ≤ g + v → v ≤ 6 → i ≤ n → rOK anyV n S e (Int32.ofNat v) (pSumG b n g v i) (f_X12_sum_g g (rS S i (-1) (Int32.ofNat v)))
  | 0, v, i, h1, h2, _ => by omega
  | g + 1, v, i, h1, hv, hi => r_sumO T L hv hi (fun h6 j hj => r_sumG T L g (v + 1) j (by omega) (by omega) hj) (fun h6 j hj => by
      have := pSumG_g T.tx g (v + 1) j (by omega) hj
      rw [show 49 + 2 * (v + 1) = 51 + 2 * v by omega] at this
      exact this)
theorem r_sum (T : RTx S b n) (L : RLt S e) {v : Nat} (hv : v ≤ 6) (hi : i ≤ n) : rOK anyV n S e (Int32.ofNat v) (pSum b n v i) (f_X12_sum (rS S i (-1) (Int32.ofNat v))) := r_sumG T L 17 v i (by omega) hv hi
end OD
