/-! The reference reads a law: conditions. -/
section OE
variable {b : Nat → Int32} {n : Nat} {S : zS} {i : Nat} {f w : Int32} {e : Nat → Int32}
theorem r_cmp_0 (z : Int32) (S : zS) : f_X12_compares 0 z S = zb (f_X12_sum S) (fun r S' => f_X12_compares 1 r S') := by
  unfold f_X12_compares
  rw [zlE, if_pos rfl]
  congr 1
theorem bol_if {α : Type} {x : Int32} (h : bolV x) (a c : α) : (if x = 0 ∨ x = 1 then a else c) = a := if_pos h
theorem r_cmp_1 (q : Int32) (S3 : zS) : f_X12_compares 1 q S3 = if (S3.1 41 11) = (-1) then
    zb (f_X12_look S3) fun r7 S6 =>
    zb (f_X12_isSign r7 S6) fun r10 S9 =>
    if ¬ r10 = 0 then
    zl (sV S9 41 10 ((S9.1 41 10) + 1)) fun S13 =>
    zb (f_X12_sum S13) fun r15 S14 =>
    if ¬ r7 = 61 then
    if ¬ r7 = 60 then
    if q ≤ r15 then some (0, S14) else some (1, S14)
    else
    if r15 ≤ q then some (0, S14) else some (1, S14)
    else
    if ¬ q = r15 then some (0, S14) else some (1, S14)
    else
    zb (f_X12_fails S9) fun r23 S22 =>
    if r23 = 0 ∨ r23 = 1 then some (r23, S22) else none
    else some (0, S3) := by
  unfold f_X12_compares
  rw [zlE, if_neg (show ¬ (1 : Int32) = 0 by decide)]
theorem r_cmp0 {y : Nat} (hy : y < 2147483648) (q : Int32) : f_X12_compares 1 q (rS S i (Int32.ofNat y) w) = some (0, rS S i (Int32.ofNat y) w) := by
  rw [r_cmp_1, rS_11, if_neg (io_ne1 hy)]
theorem r_cmp1 (T : RTx S b n) (L : RLt S e) {v : Nat} (hv : v ≤ 6) (hi : i ≤ n) {c : List Int32} {x : Int32} (h4 : exOK (49 + 2 * v) c) (hx : eB e → x = ev e c) : rOK bolV n S e (Int32.ofNat v) (pRel b n v i c) (f_X12_compares 1 x (rS S i (-1) (Int32.ofNat v))) := by
  have n2 := T.1
  have TB := T.tx
  have s2 := sk_le (b := b) hi
  rw [r_cmp_1, rS_11, if_pos rfl, r_look T hi, zbE, r_isSign, zbE]
  unfold pRel
  simp only [lk_eq (show (61 : Int32) ≠ 0 by decide) (by decide), lk_eq (show (60 : Int32) ≠ 0 by decide) (by decide)]
  by_cases q : pk b n i = 61 ∨ pk b n i = 60 ∨ pk b n i = 62
  · have lt : sk b n i < n := by
      rcases q with q | q | q
      · exact pkn_lt q (by decide)
      · exact pkn_lt q (by decide)
      · exact pkn_lt q (by decide)
    rw [if_pos q, if_pos q, if_pos (show ¬ (1 : Int32) = 0 by decide), zlE, rS_up]
    refine rOK_b (r_sum T L hv (show sk b n i + 1 ≤ n by omega)) (fun i1 c1 r hm _ hr => ?_) (fun y r i' w' hy _ => ?_)
    · obtain ⟨g1, g2, g3, g4, g5⟩ := pSum_g TB hv (show sk b n i + 1 ≤ n by omega) i1 c1 hm
      have jn : jnOk (pk b n i) := by
        unfold jnOk
        rcases q with q | q | q <;> simp [q]
      obtain ⟨x1, x2⟩ := ex_join (h4.mono (show 48 + 2 * v ≤ 49 + 2 * v by omega)) (show exOK (48 + 2 * v + 1) c1 from g4.mono (by omega)) jn
      have x3 : eB e → ev e (c ++ c1 ++ [pk b n i]) = joinV (pk b n i) x r := fun hb => by rw [x2, hx hb, hr hb]
      generalize c ++ c1 ++ [pk b n i] = cc at x3
      rcases q with q | q | q
      · rw [q] at x3
        rw [if_neg (nn q)]
        by_cases z : x = r
        · rw [if_neg (nn z)]
          refine rOK_r (Or.inr rfl) (fun hb => ?_) rfl
          rw [x3 hb]
          exact (if_pos z).symm
        · rw [if_pos z]
          refine rOK_r (Or.inl rfl) (fun hb => ?_) rfl
          rw [x3 hb]
          exact (if_neg z).symm
      · rw [q] at x3
        have n61 : ¬ pk b n i = 61 := by rw [q]; decide
        rw [if_pos n61, if_neg (nn q)]
        by_cases z : r ≤ x
        · rw [if_pos z]
          refine rOK_r (Or.inl rfl) (fun hb => ?_) rfl
          rw [x3 hb]
          exact (if_neg (Int32.not_lt.mpr z)).symm
        · rw [if_neg z]
          refine rOK_r (Or.inr rfl) (fun hb => ?_) rfl
          rw [x3 hb]
          exact (if_pos (Int32.not_le.mp z)).symm
      · rw [q] at x3
        have n61 : ¬ pk b n i = 61 := by rw [q]; decide
        have n60 : ¬ pk b n i = 60 := by rw [q]; decide
        rw [if_pos n61, if_pos n60]
        by_cases z : x ≤ r
        · rw [if_pos z]
          refine rOK_r (Or.inl rfl) (fun hb => ?_) rfl
          rw [x3 hb]
          exact (if_neg (Int32.not_lt.mpr z)).symm
        · rw [if_neg z]
          refine rOK_r (Or.inr rfl) (fun hb => ?_) rfl
          rw [x3 hb]
          exact (if_pos (Int32.not_le.mp z)).symm
    · repeat' split
      all_goals first | exact ⟨_, _, _, Or.inl rfl, rfl⟩ | exact ⟨_, _, _, Or.inr rfl, rfl⟩
  · rw [if_neg q, if_neg q, if_neg (fun h => h rfl), r_fails1, zbE, if_pos (Or.inl rfl)]
    exact rOK_l s2 (Or.inl rfl) rfl
theorem r_part0 {hub : zS → Option (Int32 × zS)} {i1 i2 : Int32} {z y : Nat} (hy : y < 2147483648) {x : Int32} (hx : bolV x) : f_X12_part_o_L18 hub (fun (q19 : Int32) (S18 : zS) => if q19 = 0 ∨ q19 = 1 then some (q19, S18) else none) i1 i2 (z + 1) x (rS S i (Int32.ofNat y) w) = some (x, rS S i (Int32.ofNat y) w) := by
  rw [f_X12_part_o_L18, rS_11, if_pos (io_ne1 hy), bol_if hx]
theorem r_cond0 {hub : zS → Option (Int32 × zS)} {i1 i2 : Int32} {z y : Nat} (hy : y < 2147483648) {x : Int32} (hx : bolV x) : f_X12_condition_o_L7 hub (fun (q18 : Int32) (S17 : zS) => if q18 = 0 ∨ q18 = 1 then some (q18, S17) else none) i1 i2 (z + 1) x (rS S i (Int32.ofNat y) w) = some (x, rS S i (Int32.ofNat y) w) := by
  rw [f_X12_condition_o_L7, rS_11, if_pos (io_ne1 hy), bol_if hx]
theorem r_unitsL (T : RTx S b n) {hub : Nat → Nat → zPR} {hubR : zS → Option (Int32 × zS)} {v : Nat} {i1 i2 : Int32} (hh : ∀ j, j ≤ n → rOK bolV n S e (Int32.ofNat v) (hub v j) (hubR (rS S j (-1) (Int32.ofNat v)))) (hg : ∀ j, j ≤ n → gM n j (48 + 2 * v) PC (hub v j)) :
    ∀ (k i fu : Nat) (c : List Int32) (x : Int32), i ≤ n → 201 ≤ i + k → k < fu → exOK (47 + 2 * v) c → bolV x → (eB e → x = ev e c) → rOK bolV n S e (Int32.ofNat v) (pUnitsL b n hub v k i c) (f_X12_part_o_L18 hubR (fun (q19 : Int32) (S18 : zS) => if q19 = 0 ∨ q19 = 1 then some (q19, S18) else none) i1 i2 fu x (rS S i (-1) (Int32.ofNat v)))
  | 0, i, fu, c, x, hi, hk, hf, h4, h5, hx => by
    have n2 := T.1
    omega
  | k + 1, i, fu, c, x, hi, hk, hf, h4, h5, hx => by
    obtain ⟨z, rfl⟩ : ∃ z, fu = z + 1 := ⟨fu - 1, by omega⟩
    obtain ⟨z', rfl⟩ : ∃ z', z = z' + 1 := ⟨z - 1, by omega⟩
    have n2 := T.1
    have s1 := sk_ge (b := b) hi
    have s2 := sk_le (b := b) hi
    rw [f_X12_part_o_L18, rS_11, if_neg (fun q => q rfl), r_look T hi, zbE, pUnitsL]
    simp only [lk_eq (show (38 : Int32) ≠ 0 by decide) (by decide), rS_up, zlE]
    by_cases q : pk b n i = 38
    · have lt : sk b n i < n := pkn_lt q (by decide)
      rw [if_pos q, if_neg (nn q)]
      refine rOK_b (hh (sk b n i + 1) (by omega)) (fun i1 c1 r hm hr1 hr => ?_) (fun y r i' w' hy hr1 => ?_)
      · obtain ⟨g1, g2, g3, g4, g5⟩ := hg (sk b n i + 1) (by omega) i1 c1 hm
        obtain ⟨x1, x2⟩ := ex_join h4 (show exOK (47 + 2 * v + 1) c1 from g4.mono (by omega)) (o := 38) (Or.inl rfl)
        rcases h5 with rfl | rfl
        · rw [if_pos rfl]
          refine r_unitsL T hh hg k i1 (z' + 1) _ 0 g2 (by omega) (by omega) x1 (Or.inl rfl) (fun hb => ?_)
          rw [x2, ← hx hb, ← hr hb]
          rcases hr1 with rfl | rfl <;> decide
        · rw [if_neg (show ¬ (1 : Int32) = 0 by decide)]
          rcases hr1 with rfl | rfl
          · rw [if_pos rfl]
            refine r_unitsL T hh hg k i1 (z' + 1) _ 0 g2 (by omega) (by omega) x1 (Or.inl rfl) (fun hb => ?_)
            rw [x2, ← hx hb, ← hr hb]
            decide
          · rw [if_neg (show ¬ (1 : Int32) = 0 by decide)]
            refine r_unitsL T hh hg k i1 (z' + 1) _ 1 g2 (by omega) (by omega) x1 (Or.inr rfl) (fun hb => ?_)
            rw [x2, ← hx hb, ← hr hb]
            decide
      · rw [r_part0 (by omega) (Or.inl rfl), r_part0 (by omega) (Or.inr rfl)]
        repeat' split
        all_goals first | exact ⟨_, _, _, Or.inl rfl, rfl⟩ | exact ⟨_, _, _, Or.inr rfl, rfl⟩
    · rw [if_neg q, if_pos q, bol_if h5]
      exact rOK_r h5 hx rfl
theorem r_part_0 (hub : zS → Option (Int32 × zS)) (S : zS) : f_X12_part_o hub 0 0 S = zb (hub S) (fun r S' => f_X12_part_o_L18 hub (fun (q19 : Int32) (S18 : zS) => if q19 = 0 ∨ q19 = 1 then some (q19, S18) else none) 0 0 zN r S') := by
  unfold f_X12_part_o
  rw [zlE, if_pos rfl]
theorem r_part_1 (hub : zS → Option (Int32 × zS)) (x : Int32) (S : zS) : f_X12_part_o hub 1 x S = zb (f_X12_compares 1 x S) (fun r S' => f_X12_part_o_L18 hub (fun (q19 : Int32) (S18 : zS) => if q19 = 0 ∨ q19 = 1 then some (q19, S18) else none) 1 x zN r S') := by
  unfold f_X12_part_o
  rw [zlE, if_neg (show ¬ (1 : Int32) = 0 by decide)]
theorem r_truth (T : RTx S b n) {hub : Nat → Nat → zPR} {hubR : zS → Option (Int32 × zS)} {v : Nat} (hi : i ≤ n) (hh : ∀ j, j ≤ n → rOK bolV n S e (Int32.ofNat v) (hub v j) (hubR (rS S j (-1) (Int32.ofNat v)))) (hg : ∀ j, j ≤ n → gM n j (48 + 2 * v) PC (hub v j)) :
    rOK bolV n S e (Int32.ofNat v) (pTruth b n hub v i) (f_X12_part_o hubR 0 0 (rS S i (-1) (Int32.ofNat v))) := by
  have n2 := T.1
  rw [r_part_0]
  unfold pTruth
  refine rOK_b (hh i hi) (fun i1 c1 r hm hr1 hr => ?_) (fun y r i' w' hy hr1 => ?_)
  · obtain ⟨g1, g2, g3, g4, g5⟩ := hg i hi i1 c1 hm
    exact r_unitsL T hh hg 200 i1 zN _ _ g2 (by omega) (by unfold zN; omega) (g4.mono (by omega)) hr1 hr
  · rw [show zN = 4999 + 1 from rfl, r_part0 (by omega) hr1]
    exact ⟨_, _, _, hr1, rfl⟩
theorem r_truthsL (T : RTx S b n) {hub : Nat → Nat → zPR} {hubR : zS → Option (Int32 × zS)} {v : Nat} {i1 i2 : Int32} (hh : ∀ j, j ≤ n → rOK bolV n S e (Int32.ofNat v) (hub v j) (hubR (rS S j (-1) (Int32.ofNat v)))) (hg : ∀ j, j ≤ n → gM n j (48 + 2 * v) PC (hub v j)) :
    ∀ (k i fu : Nat) (c : List Int32) (x : Int32), i ≤ n → 201 ≤ i + k → k < fu → exOK (46 + 2 * v) c → bolV x → (eB e → x = ev e c) → rOK bolV n S e (Int32.ofNat v) (pTruthsL b n hub v k i c) (f_X12_condition_o_L7 hubR (fun (q18 : Int32) (S17 : zS) => if q18 = 0 ∨ q18 = 1 then some (q18, S17) else none) i1 i2 fu x (rS S i (-1) (Int32.ofNat v)))
  | 0, i, fu, c, x, hi, hk, hf, h4, h5, hx => by
    have n2 := T.1
    omega
  | k + 1, i, fu, c, x, hi, hk, hf, h4, h5, hx => by
    obtain ⟨z, rfl⟩ : ∃ z, fu = z + 1 := ⟨fu - 1, by omega⟩
    obtain ⟨z', rfl⟩ : ∃ z', z = z' + 1 := ⟨z - 1, by omega⟩
    have n2 := T.1
    have TB := T.tx
    have s1 := sk_ge (b := b) hi
    have s2 := sk_le (b := b) hi
    rw [f_X12_condition_o_L7, rS_11, if_neg (fun q => q rfl), r_look T hi, zbE, pTruthsL]
    simp only [lk_eq (show (124 : Int32) ≠ 0 by decide) (by decide), rS_up, zlE]
    by_cases q : pk b n i = 124
    · have lt : sk b n i < n := pkn_lt q (by decide)
      rw [if_pos q, if_neg (nn q)]
      refine rOK_b (r_truth T (show sk b n i + 1 ≤ n by omega) hh hg) (fun i1 c1 r hm hr1 hr => ?_) (fun y r i' w' hy hr1 => ?_)
      · obtain ⟨g1, g2, g3, g4, g5⟩ := pTruth_g TB (show sk b n i + 1 ≤ n by omega) hg i1 c1 hm
        obtain ⟨x1, x2⟩ := ex_join h4 (show exOK (46 + 2 * v + 1) c1 from g4.mono (by omega)) (o := 124) (Or.inr (Or.inl rfl))
        rcases h5 with rfl | rfl
        · rw [if_neg (fun h => h rfl)]
          rcases hr1 with rfl | rfl
          · rw [if_pos rfl]
            refine r_truthsL T hh hg k i1 (z' + 1) _ 0 g2 (by omega) (by omega) x1 (Or.inl rfl) (fun hb => ?_)
            rw [x2, ← hx hb, ← hr hb]
            decide
          · rw [if_neg (show ¬ (1 : Int32) = 0 by decide)]
            refine r_truthsL T hh hg k i1 (z' + 1) _ 1 g2 (by omega) (by omega) x1 (Or.inr rfl) (fun hb => ?_)
            rw [x2, ← hx hb, ← hr hb]
            decide
        · rw [if_pos (show ¬ (1 : Int32) = 0 by decide)]
          refine r_truthsL T hh hg k i1 (z' + 1) _ 1 g2 (by omega) (by omega) x1 (Or.inr rfl) (fun hb => ?_)
          rw [x2, ← hx hb, ← hr hb]
          rcases hr1 with rfl | rfl <;> decide
      · rw [r_cond0 (by omega) (Or.inl rfl), r_cond0 (by omega) (Or.inr rfl)]
        repeat' split
        all_goals first | exact ⟨_, _, _, Or.inl rfl, rfl⟩ | exact ⟨_, _, _, Or.inr rfl, rfl⟩
    · rw [if_neg q, if_pos q, bol_if h5]
      exact rOK_r h5 hx rfl
theorem r_condO (T : RTx S b n) {hub : Nat → Nat → zPR} {hubR : zS → Option (Int32 × zS)} {v : Nat} (hi : i ≤ n) (hh : ∀ j, j ≤ n → rOK bolV n S e (Int32.ofNat v) (hub v j) (hubR (rS S j (-1) (Int32.ofNat v)))) (hg : ∀ j, j ≤ n → gM n j (48 + 2 * v) PC (hub v j)) :
    rOK bolV n S e (Int32.ofNat v) (pCond b n hub v i) (f_X12_condition_o hubR 0 0 (rS S i (-1) (Int32.ofNat v))) := by
  have n2 := T.1
  unfold f_X12_condition_o pCond
  refine rOK_b (r_truth T hi hh hg) (fun i1 c1 r hm hr1 hr => ?_) (fun y r i' w' hy hr1 => ?_)
  · obtain ⟨g1, g2, g3, g4, g5⟩ := pTruth_g T.tx hi hg i1 c1 hm
    exact r_truthsL T hh hg 200 i1 zN _ _ g2 (by omega) (by unfold zN; omega) (g4.mono (by omega)) hr1 hr
  · rw [show zN = 4999 + 1 from rfl, r_cond0 (by omega) hr1]
    exact ⟨_, _, _, hr1, rfl⟩
theorem r_unitO (T : RTx S b n) (L : RLt S e) {hub : Nat → Nat → zPR} {hubR : zS → Option (Int32 × zS)} {v : Nat} (hv : v ≤ 6) (hi : i ≤ n) (hh : v < 6 → ∀ j, j ≤ n → rOK bolV n S e (Int32.ofNat (v + 1)) (hub (v + 1) j) (hubR (rS S j (-1) (Int32.ofNat (v + 1))))) (hg : v < 6 → ∀ j, j ≤ n → gM n j (50 + 2 * v) PC (hub (v + 1) j)) :
    rOK bolV n S e (Int32.ofNat v) (pUnitO b n hub v i) (f_X12_unit_o hubR (rS S i (-1) (Int32.ofNat v))) := by
  have n2 := T.1
  have TB := T.tx
  have s1 := sk_ge (b := b) hi
  have s2 := sk_le (b := b) hi
  unfold f_X12_unit_o pUnitO
  rw [r_look T hi, zbE]
  simp only [lk_eq (show (33 : Int32) ≠ 0 by decide) (by decide), lk_eq (show (40 : Int32) ≠ 0 by decide) (by decide)]
  by_cases q : pk b n i = 33
  · have lt : sk b n i < n := pkn_lt q (by decide)
    rw [if_pos q, if_neg (nn q)]
    by_cases q4 : v < 6
    · rw [if_pos q4, r_goesIn1 q4, zbE, if_pos (show ¬ (1 : Int32) = 0 by decide)]
      refine rOK_b (hh q4 (sk b n i + 1) (by omega)) (fun i1 c1 r hm hr1 hr => ?_) (fun y r i' w' hy hr1 => ?_)
      · obtain ⟨g1, g2, g3, g4, g5⟩ := hg q4 (sk b n i + 1) (by omega) i1 c1 hm
        obtain ⟨x1, x2⟩ := ex_not g4
        rw [zlE, rS_12, io_mm (by omega), rS_s12]
        rcases hr1 with rfl | rfl
        · rw [if_neg (fun h => h rfl)]
          refine rOK_r (Or.inr rfl) (fun hb => ?_) rfl
          rw [x2, ← hr hb]
          decide
        · rw [if_pos (show ¬ (1 : Int32) = 0 by decide)]
          refine rOK_r (Or.inl rfl) (fun hb => ?_) rfl
          rw [x2, ← hr hb]
          decide
      · rw [zlE, rS_12, rS_s12]
        split
        · exact ⟨_, _, _, Or.inl rfl, rfl⟩
        · exact ⟨_, _, _, Or.inr rfl, rfl⟩
    · have v6 : v = 6 := by omega
      subst v6
      rw [if_neg q4, r_goesIn0, zbE, if_neg (fun h => h rfl)]
      exact rOK_l s2 (Or.inl rfl) rfl
  · rw [if_neg q, if_pos q]
    by_cases q3 : pk b n i = 40
    · have lt : sk b n i < n := pkn_lt q3 (by decide)
      rw [if_pos q3, if_neg (nn q3)]
      by_cases q4 : v < 6
      · rw [if_pos q4, r_goesIn1 q4, zbE, if_pos (show ¬ (1 : Int32) = 0 by decide)]
        have hg' : ∀ j, j ≤ n → gM n j (48 + 2 * (v + 1)) PC (hub (v + 1) j) := fun j hj => by
          rw [show 48 + 2 * (v + 1) = 50 + 2 * v by omega]
          exact hg q4 j hj
        refine rOK_b (r_condO T (show sk b n i + 1 ≤ n by omega) (hh q4) hg') (fun i1 c1 r hm hr1 hr => ?_) (fun y r i' w' hy hr1 => ?_)
        · have g2 := (pCond_g TB (show sk b n i + 1 ≤ n by omega) hg' i1 c1 hm).2.1
          rw [r_takes1 T g2 (by decide) (by decide)]
          unfold pNeed
          by_cases q5 : pk b n i1 = 41
          · rw [if_pos q5, if_pos q5, zbE, if_pos (show ¬ (1 : Int32) = 0 by decide), zlE, rS_12, io_mm (by omega), rS_s12, bol_if hr1]
            exact rOK_r hr1 hr rfl
          · rw [if_neg q5, if_neg q5, zbE, if_neg (fun h => h rfl)]
            exact rOK_l (sk_le g2) (Or.inl rfl) rfl
        · rw [r_takes0 (by omega), zbE, if_neg (fun h => h rfl)]
          exact ⟨_, _, _, Or.inl rfl, rfl⟩
      · have v6 : v = 6 := by omega
        subst v6
        rw [if_neg q4, r_goesIn0, zbE, if_neg (fun h => h rfl)]
        exact rOK_l s2 (Or.inl rfl) rfl
    · rw [if_neg q3, if_pos q3, r_cmp_0]
      have key : ∀ o : Option (Int32 × zS), rOK bolV n S e (Int32.ofNat v) (pB (pSum b n v (sk b n i)) (fun i' c => pRel b n v i' c)) o → rOK bolV n S e (Int32.ofNat v) (pB (pSum b n v (sk b n i)) (fun i' c => pRel b n v i' c)) (zb o fun r7 S6 => if r7 = 0 ∨ r7 = 1 then some (r7, S6) else none) := by
        intro o h
        refine ⟨fun x hx => ?_, fun i' c hc => ?_⟩
        · obtain ⟨h1, r, i', w', hr, ho⟩ := h.1 x hx
          exact ⟨h1, r, i', w', hr, by rw [ho, zbE, bol_if hr]⟩
        · obtain ⟨r, hr, he, ho⟩ := h.2 i' c hc
          exact ⟨r, hr, he, by rw [ho, zbE, bol_if hr]⟩
      refine key _ (rOK_b (r_sum T L hv s2) (fun i1 c1 r hm _ hr => ?_) (fun y r i' w' hy _ => ?_))
      · obtain ⟨g1, g2, g3, g4, g5⟩ := pSum_g TB hv s2 i1 c1 hm
        exact r_cmp1 T L hv g2 g4 hr
      · rw [r_cmp0 (by omega)]
        exact ⟨_, _, _, Or.inl rfl, rfl⟩
theorem r_unitG (T : RTx S b n) (L : RLt S e) : ∀ (g v i : Nat), 7 ≤ g + v → v ≤ 6 → i ≤ n → rOK bolV n S e (Int32.ofNat v) (pUnitG b n g v i) (f_X12_unit_g g (rS S i (-1) (Int32.ofNat v)))
  | 0, v, i, h1, h2, _ => by omega
  | g + 1, v, i, h1, hv, hi => r_unitO T L hv hi (fun h6 j hj => r_unitG T L g (v + 1) j (by omega) (by omega) hj) (fun h6 j hj => by
      have := pUnitG_g T.tx g (v + 1) j (by omega) hj
      rw [show 48 + 2 * (v + 1) = 50 + 2 * v by omega] at this
      exact this)
/-- a condition whose first sum is read -/
theorem r_cond1 (T : RTx S b n) (L : RLt S e) (hi : i ≤ n) {c : List Int32} {x : Int32} (h4 : exOK 49 c) (hx : eB e → x = ev e c) {i0 : Nat} (h0 : i0 < i) (h3 : c.length + i0 ≤ i) :
    rOK bolV n S e (Int32.ofNat 0) (pB (pRel b n 0 i c) (fun i4 c4 => pB (pUnitsL b n (pUnitG b n 16) 0 200 i4 c4) (fun i5 c5 => pTruthsL b n (pUnitG b n 16) 0 200 i5 c5))) (f_X12_condition 1 x (rS S i (-1) (Int32.ofNat 0))) := by
  have n2 := T.1
  have TB := T.tx
  have hh := fun j hj => r_unitG T L 16 0 j (by omega) (by omega) hj
  have hg := fun j hj => pUnitG_g (b := b) TB 16 0 j (by omega) hj
  unfold f_X12_condition f_X12_condition_o
  rw [r_part_1]
  have as : ∀ (o : Option (Int32 × zS)) (g1 g2 : Int32 → zS → Option (Int32 × zS)), zb (zb o g1) g2 = zb o (fun r S' => zb (g1 r S') g2) := by
    intro o g1 g2
    cases o with
    | none => rfl
    | some r => rfl
  rw [as]
  refine rOK_b (r_cmp1 T L (by omega) hi h4 hx) (fun i1 c1 r hm hr1 hr => ?_) (fun y r i' w' hy hr1 => ?_)
  · obtain ⟨g1, g2, g3, g4, g5⟩ := pRel_g TB (by omega) h0 hi h3 h4 i1 c1 hm
    refine rOK_b (r_unitsL T hh hg 200 i1 zN _ _ g2 (by omega) (by unfold zN; omega) (g4.mono (by omega)) hr1 hr) (fun i2 c2 r2 hm2 hs1 hs => ?_) (fun y r i' w' hy hr1 => ?_)
    · obtain ⟨k1, k2, k3, k4, k5⟩ := pUnitsL_g TB hg 200 i1 c1 g1 g2 g3 (g4.mono (by omega)) g5 i2 c2 hm2
      exact r_truthsL T hh hg 200 i2 zN _ _ k2 (by omega) (by unfold zN; omega) (k4.mono (by omega)) hs1 hs
    · rw [show zN = 4999 + 1 from rfl, r_cond0 (by omega) hr1]
      exact ⟨_, _, _, hr1, rfl⟩
  · rw [show zN = 4999 + 1 from rfl, r_part0 (by omega) hr1, zbE, r_cond0 (by omega) hr1]
    exact ⟨_, _, _, hr1, rfl⟩
end OE
