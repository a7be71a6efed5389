/-! The class reads a law: conditions, clauses. -/
section PC
variable {b : Nat → Int32} {n : Nat} {S : zS} {i m : Nat} {f : Int32} {r : Nat → Int32}
theorem okC_z {mm : zPR} {o : Option (Unit × zS)} (h : okC n S r m mm o) : okC n S r m mm (zb o fun _ S' => some ((), S')) := by
  refine ⟨fun x hx => ?_, fun i2 c2 h2 => ?_⟩
  · obtain ⟨k1, i3, r3, m3, k2, k3, k4⟩ := h.1 x hx
    exact ⟨k1, i3, r3, m3, k2, k3, by rw [k4, zbE]⟩
  · rw [h.2 i2 c2 h2, zbE]
theorem okC_p {i' : Nat} {c : List Int32} (x : Int32) (hm : m + c.length < 202) : okC n S r m (.inr (i', c ++ [x])) (f_X5_put x (cS S i' (-1) (wl r m c) (m + c.length))) := by
  rw [c_put x hm]
  have e1 : wl (wl r m c) (m + c.length) [x] = wl r m (c ++ [x]) := wl_app _ _ _ _
  have e2 : m + c.length + 1 = m + (c ++ [x]).length := by
    rw [List.length_append]
    rfl
  rw [e1, e2]
  exact okC_r rfl
theorem c_isRel (v : Int32) (S : zS) : f_X5_isRelation v S = some (if v = 61 ∨ v = 60 ∨ v = 62 then 1 else 0, S) := by
  unfold f_X5_isRelation
  simp only [zlE]
  by_cases h1 : v = 61
  · rw [if_pos h1, if_pos (Or.inl h1)]
  · rw [if_neg h1]
    by_cases h2 : v = 60
    · rw [if_pos h2, if_pos (Or.inr (Or.inl h2))]
    · rw [if_neg h2]
      by_cases h3 : v = 62
      · rw [if_neg (nn h3), if_pos (Or.inr (Or.inr h3))]
      · rw [if_pos h3, if_neg (fun q => by rcases q with q | q | q <;> contradiction)]
theorem ddC_rel (T : CTx S b n) (n2 : n ≤ 200) (x : Int32) : ddC n S (f_X5_readRelation x) := by
  intro y i' r' m' hy hi hm
  refine ⟨sk b n i', r', m', sk_le hi, hm, ?_⟩
  unfold f_X5_readRelation cS
  rw [c_sign0 (lS_T T) n2 hi (by omega), zbE, c_isRel, zbE, if_neg (show ¬ ((0 : Int32) = 61 ∨ (0 : Int32) = 60 ∨ (0 : Int32) = 62) by decide), if_neg (nn rfl), c_fail0 (by omega), zbE]
theorem c_rel (T : CTx S b n) (TB : TxB b n) {v : Nat} (hv : v ≤ 6) (hi : i ≤ n) {c : List Int32} (hm : m + c.length ≤ i) : okC n S r m (pRel b n v i c) (f_X5_readRelation (Int32.ofNat v) (cS S i (-1) (wl r m c) (m + c.length))) := by
  have n2 := TB.1
  have s1 := sk_ge (b := b) hi
  have s2 := sk_le (b := b) hi
  unfold f_X5_readRelation pRel
  rw [show f_X9_sign (cS S i (-1) (wl r m c) (m + c.length)) = some (pk b n i, cS S (sk b n i) (-1) (wl r m c) (m + c.length)) from c_sign1 (lS_T T) n2 hi, zbE, c_isRel, zbE]
  by_cases q : pk b n i = 61 ∨ pk b n i = 60 ∨ pk b n i = 62
  · have lt : sk b n i < n := by
      rcases q with q | q | q
      · exact pkn_lt q (by decide)
      · exact pkn_lt q (by decide)
      · exact pkn_lt q (by decide)
    rw [if_pos q, if_pos q, if_pos (show ¬ (1 : Int32) = 0 by decide), zlE, cS_up]
    refine okC_b (c_sum T TB hv (show sk b n i + 1 ≤ n by omega) (by omega)) (fun i1 c1 h1 => ?_) (ddC_b (ddC_put _) ddC_s)
    obtain ⟨g1, g2, g3, -⟩ := pSum_g TB hv (show sk b n i + 1 ≤ n by omega) i1 c1 h1
    rw [wl_app, show m + c.length + c1.length = m + (c ++ c1).length by rw [List.length_append]; omega]
    exact okC_z (okC_p _ (by rw [List.length_append]; omega))
  · rw [if_neg q, if_neg q, if_neg (nn rfl)]
    refine okC_l s2 s2 (show m + c.length ≤ 202 by omega) (r' := wl r m c) ?_
    unfold cS
    rw [c_fail1, zbE]
theorem ddC_tk (T : CTx S b n) (n2 : n ≤ 200) {x : Int32} (hx : x ≠ 0) {g : Int32 → zS → Option (Unit × zS)} (h : ddC n S (g 0)) : ddC n S (fun S' => zb (f_X9_takes x S') g) := by
  intro y i' r' m' hy hi hm
  obtain ⟨i3, r3, m3, b1, b2, b3⟩ := h y (sk b n i') r' m' hy (sk_le hi) hm
  refine ⟨i3, r3, m3, b1, b2, ?_⟩
  show zb (f_X9_takes x (tS (lS S r' m') i' (Int32.ofNat y))) g = _
  rw [c_takes0 (lS_T T) n2 hi (by omega) hx, zbE]
  exact b3
theorem ddC_unitsL (T : CTx S b n) (n2 : n ≤ 200) {hub : Int32 → zS → Option (Unit × zS)} {v1 x2 : Int32} {z : Nat} : ddC n S (f_X5_readMoreUnits_o_L2 hub (fun (q14 : Int32) (S13 : zS) => some ((), S13)) v1 (z + 1) x2) := by
  intro y i' r' m' hy hi hm
  rw [f_X5_readMoreUnits_o_L2]
  by_cases q : 200 ≤ x2
  · rw [if_pos q]
    exact ⟨i', r', m', hi, hm, rfl⟩
  · rw [if_neg q]
    refine ddC_tk T n2 (x := 38) (by decide) (g := fun r3 S2 => if r3 = 0 then some ((), S2) else zb (hub v1 S2) fun _ S6 => zb (f_X5_put 38 S6) fun _ S9 => zl (x2 + 1) fun (y12 : Int32) => f_X5_readMoreUnits_o_L2 hub (fun (q14 : Int32) (S13 : zS) => some ((), S13)) v1 z y12 S9) ?_ y i' r' m' hy hi hm
    exact ddC_s
theorem ddC_units (T : CTx S b n) (n2 : n ≤ 200) (hub : Int32 → zS → Option (Unit × zS)) (v1 : Int32) : ddC n S (f_X5_readMoreUnits_o hub v1) := ddC_unitsL T n2 (z := 4999) (x2 := 0)
theorem ddC_truth (T : CTx S b n) (n2 : n ≤ 200) {hub : Int32 → zS → Option (Unit × zS)} (hd : ∀ x, ddC n S (hub x)) (v1 : Int32) : ddC n S (f_X5_readTruth_o hub v1) := ddC_b (hd v1) (ddC_b (ddC_units T n2 hub v1) ddC_s)
theorem ddC_truthsL (T : CTx S b n) (n2 : n ≤ 200) {hub : Int32 → zS → Option (Unit × zS)} {v1 x2 : Int32} {z : Nat} : ddC n S (f_X5_readMoreTruths_o_L2 hub (fun (q14 : Int32) (S13 : zS) => some ((), S13)) v1 (z + 1) x2) := by
  intro y i' r' m' hy hi hm
  rw [f_X5_readMoreTruths_o_L2]
  by_cases q : 200 ≤ x2
  · rw [if_pos q]
    exact ⟨i', r', m', hi, hm, rfl⟩
  · rw [if_neg q]
    refine ddC_tk T n2 (x := 124) (by decide) (g := fun r3 S2 => if r3 = 0 then some ((), S2) else zb (f_X5_readTruth_o hub v1 S2) fun _ S6 => zb (f_X5_put 124 S6) fun _ S9 => zl (x2 + 1) fun (y12 : Int32) => f_X5_readMoreTruths_o_L2 hub (fun (q14 : Int32) (S13 : zS) => some ((), S13)) v1 z y12 S9) ?_ y i' r' m' hy hi hm
    exact ddC_s
theorem ddC_truths (T : CTx S b n) (n2 : n ≤ 200) (hub : Int32 → zS → Option (Unit × zS)) (v1 : Int32) : ddC n S (f_X5_readMoreTruths_o hub v1) := ddC_truthsL T n2 (z := 4999) (x2 := 0)
theorem ddC_cond (T : CTx S b n) (n2 : n ≤ 200) {hub : Int32 → zS → Option (Unit × zS)} (hd : ∀ x, ddC n S (hub x)) (v1 : Int32) : ddC n S (f_X5_readCondition_o hub v1) := ddC_b (ddC_truth T n2 hd v1) (ddC_b (ddC_truths T n2 hub v1) ddC_s)
theorem ddC_unitO (T : CTx S b n) (n2 : n ≤ 200) (hub : Int32 → zS → Option (Unit × zS)) (v1 : Int32) : ddC n S (f_X5_readUnit_o hub v1) := by
  refine ddC_sign T n2 (g := fun r2 S1 => if ¬ r2 = 33 then if ¬ r2 = 40 then zb (f_X5_readSum v1 S1) fun _ S6 => zb (f_X5_readRelation v1 S6) fun _ S9 => some ((), S9) else zb (f_X5_enters v1 S1) fun r13 S12 => if r13 = 0 then some ((), S12) else zb (f_X5_readCondition_o hub (v1 + 1) S12) fun _ S16 => zb (f_X9_needs 41 S16) fun _ S19 => some ((), S19) else zb (f_X5_enters v1 S1) fun r23 S22 => if r23 = 0 then some ((), S22) else zb (hub (v1 + 1) S22) fun _ S26 => zb (f_X5_put 33 S26) fun _ S29 => some ((), S29)) ?_
  exact ddC_b (ddC_rsum T n2 v1) (ddC_b (ddC_rel T n2 v1) ddC_s)
theorem ddC_unitG (T : CTx S b n) (n2 : n ≤ 200) : ∀ (g : Nat) (x : Int32), 0 < g → ddC n S (f_X5_readUnit_g g x)
  | 0, x, h => absurd h (by omega)
  | g + 1, x, _ => ddC_unitO T n2 (f_X5_readUnit_g g) x
theorem c_unitsL (T : CTx S b n) (TB : TxB b n) {hub : Nat → Nat → zPR} {hubC : Int32 → zS → Option (Unit × zS)} {v : Nat} (hh : ∀ j r m, j ≤ n → m ≤ j → okC n S r m (hub v j) (hubC (Int32.ofNat v) (cS S j (-1) r m))) (hg : ∀ j, j ≤ n → gM n j (48 + 2 * v) PC (hub v j)) :
    ∀ (k i x fu : Nat) (c : List Int32), i ≤ n → 201 ≤ i + k → x + k = 200 → k < fu → m + c.length ≤ i → okC n S r m (pUnitsL b n hub v k i c) (f_X5_readMoreUnits_o_L2 hubC (fun (q14 : Int32) (S13 : zS) => some ((), S13)) (Int32.ofNat v) fu (Int32.ofNat x) (cS S i (-1) (wl r m c) (m + c.length)))
  | 0, i, x, fu, c, hi, hk, hx, hf, hm => by
    have n2 := TB.1
    omega
  | k + 1, i, x, fu, c, hi, hk, hx, hf, hm => by
    obtain ⟨z, rfl⟩ : ∃ z, fu = z + 1 := ⟨fu - 1, by omega⟩
    obtain ⟨z', rfl⟩ : ∃ z', z = z' + 1 := ⟨z - 1, by omega⟩
    have n2 := TB.1
    have s1 := sk_ge (b := b) hi
    have s2 := sk_le (b := b) hi
    rw [f_X5_readMoreUnits_o_L2, if_neg (fun q => by have := (io_le (a := 200) (by omega) (by omega)).mp q; omega), pUnitsL, show f_X9_takes 38 (cS S i (-1) (wl r m c) (m + c.length)) = if pk b n i = 38 then some (1, cS S (sk b n i + 1) (-1) (wl r m c) (m + c.length)) else some (0, cS S (sk b n i) (-1) (wl r m c) (m + c.length)) from c_takes1 (lS_T T) n2 hi 38]
    by_cases q : pk b n i = 38
    · have lt : sk b n i < n := pkn_lt q (by decide)
      rw [if_pos q, if_pos q, zbE, if_neg (show ¬ (1 : Int32) = 0 by decide)]
      refine okC_b (hh (sk b n i + 1) _ _ (by omega) (by omega)) (fun i1 c1 h1 => ?_) (ddC_b (ddC_put _) (g2 := fun S9 => zl (Int32.ofNat x + 1) fun (y12 : Int32) => f_X5_readMoreUnits_o_L2 hubC (fun (q14 : Int32) (S13 : zS) => some ((), S13)) (Int32.ofNat v) (z' + 1) y12 S9) (ddC_unitsL T n2))
      obtain ⟨g1, g2, g3, -⟩ := hg (sk b n i + 1) (by omega) i1 c1 h1
      rw [wl_app, show m + c.length + c1.length = m + (c ++ c1).length by rw [List.length_append]; omega]
      have l1 : m + (c ++ c1).length < 202 := by rw [List.length_append]; omega
      have P := (okC_p (n := n) (S := S) (r := r) (m := m) (i' := i1) (c := c ++ c1) 38 l1).2 i1 _ rfl
      rw [P, zbE, zlE, io_sc]
      refine c_unitsL T TB hh hg k i1 (x + 1) (z' + 1) _ g2 (by omega) (by omega) (by omega) ?_
      rw [List.length_append, List.length_append]
      show m + (c.length + c1.length + 1) ≤ i1
      omega
    · rw [if_neg q, if_neg q, zbE, if_pos rfl]
      exact okC_r rfl
theorem c_truth (T : CTx S b n) (TB : TxB b n) {hub : Nat → Nat → zPR} {hubC : Int32 → zS → Option (Unit × zS)} {v : Nat} (hi : i ≤ n) (hm : m ≤ i) (hh : ∀ j r m, j ≤ n → m ≤ j → okC n S r m (hub v j) (hubC (Int32.ofNat v) (cS S j (-1) r m))) (hg : ∀ j, j ≤ n → gM n j (48 + 2 * v) PC (hub v j)) : okC n S r m (pTruth b n hub v i) (f_X5_readTruth_o hubC (Int32.ofNat v) (cS S i (-1) r m)) := by
  unfold pTruth f_X5_readTruth_o
  refine okC_b (hh i r m hi hm) (fun i1 c1 h1 => ?_) (ddC_b (ddC_units T TB.1 hubC _) ddC_s)
  obtain ⟨g1, g2, g3, -⟩ := hg i hi i1 c1 h1
  exact okC_z (c_unitsL T TB hh hg 200 i1 0 zN c1 g2 (by omega) (by omega) (by unfold zN; omega) (by omega))
theorem c_truthsL (T : CTx S b n) (TB : TxB b n) {hub : Nat → Nat → zPR} {hubC : Int32 → zS → Option (Unit × zS)} {v : Nat} (hh : ∀ j r m, j ≤ n → m ≤ j → okC n S r m (hub v j) (hubC (Int32.ofNat v) (cS S j (-1) r m))) (hg : ∀ j, j ≤ n → gM n j (48 + 2 * v) PC (hub v j)) :
    ∀ (k i x fu : Nat) (c : List Int32), i ≤ n → 201 ≤ i + k → x + k = 200 → k < fu → m + c.length ≤ i → okC n S r m (pTruthsL b n hub v k i c) (f_X5_readMoreTruths_o_L2 hubC (fun (q14 : Int32) (S13 : zS) => some ((), S13)) (Int32.ofNat v) fu (Int32.ofNat x) (cS S i (-1) (wl r m c) (m + c.length)))
  | 0, i, x, fu, c, hi, hk, hx, hf, hm => by
    have n2 := TB.1
    omega
  | k + 1, i, x, fu, c, hi, hk, hx, hf, hm => by
    obtain ⟨z, rfl⟩ : ∃ z, fu = z + 1 := ⟨fu - 1, by omega⟩
    obtain ⟨z', rfl⟩ : ∃ z', z = z' + 1 := ⟨z - 1, by omega⟩
    have n2 := TB.1
    have s1 := sk_ge (b := b) hi
    have s2 := sk_le (b := b) hi
    rw [f_X5_readMoreTruths_o_L2, if_neg (fun q => by have := (io_le (a := 200) (by omega) (by omega)).mp q; omega), pTruthsL, show f_X9_takes 124 (cS S i (-1) (wl r m c) (m + c.length)) = if pk b n i = 124 then some (1, cS S (sk b n i + 1) (-1) (wl r m c) (m + c.length)) else some (0, cS S (sk b n i) (-1) (wl r m c) (m + c.length)) from c_takes1 (lS_T T) n2 hi 124]
    by_cases q : pk b n i = 124
    · have lt : sk b n i < n := pkn_lt q (by decide)
      rw [if_pos q, if_pos q, zbE, if_neg (show ¬ (1 : Int32) = 0 by decide)]
      refine okC_b (c_truth T TB (show sk b n i + 1 ≤ n by omega) (show m + c.length ≤ sk b n i + 1 by omega) hh hg) (fun i1 c1 h1 => ?_) (ddC_b (ddC_put _) (g2 := fun S9 => zl (Int32.ofNat x + 1) fun (y12 : Int32) => f_X5_readMoreTruths_o_L2 hubC (fun (q14 : Int32) (S13 : zS) => some ((), S13)) (Int32.ofNat v) (z' + 1) y12 S9) (ddC_truthsL T n2))
      obtain ⟨g1, g2, g3, -⟩ := pTruth_g TB (show sk b n i + 1 ≤ n by omega) hg i1 c1 h1
      rw [wl_app, show m + c.length + c1.length = m + (c ++ c1).length by rw [List.length_append]; omega]
      have l1 : m + (c ++ c1).length < 202 := by rw [List.length_append]; omega
      have P := (okC_p (n := n) (S := S) (r := r) (m := m) (i' := i1) (c := c ++ c1) 124 l1).2 i1 _ rfl
      rw [P, zbE, zlE, io_sc]
      refine c_truthsL T TB hh hg k i1 (x + 1) (z' + 1) _ g2 (by omega) (by omega) (by omega) ?_
      rw [List.length_append, List.length_append]
      show m + (c.length + c1.length + 1) ≤ i1
      omega
    · rw [if_neg q, if_neg q, zbE, if_pos rfl]
      exact okC_r rfl
theorem c_condO (T : CTx S b n) (TB : TxB b n) {hub : Nat → Nat → zPR} {hubC : Int32 → zS → Option (Unit × zS)} {v : Nat} (hi : i ≤ n) (hm : m ≤ i) (hh : ∀ j r m, j ≤ n → m ≤ j → okC n S r m (hub v j) (hubC (Int32.ofNat v) (cS S j (-1) r m))) (hg : ∀ j, j ≤ n → gM n j (48 + 2 * v) PC (hub v j)) : okC n S r m (pCond b n hub v i) (f_X5_readCondition_o hubC (Int32.ofNat v) (cS S i (-1) r m)) := by
  unfold pCond f_X5_readCondition_o
  refine okC_b (c_truth T TB hi hm hh hg) (fun i1 c1 h1 => ?_) (ddC_b (ddC_truths T TB.1 hubC _) ddC_s)
  obtain ⟨g1, g2, g3, -⟩ := pTruth_g TB hi hg i1 c1 h1
  exact okC_z (c_truthsL T TB hh hg 200 i1 0 zN c1 g2 (by omega) (by omega) (by unfold zN; omega) (by omega))
theorem c_unitO (T : CTx S b n) (TB : TxB b n) {hub : Nat → Nat → zPR} {hubC : Int32 → zS → Option (Unit × zS)} {v : Nat} (hv : v ≤ 6) (hi : i ≤ n) (hm : m ≤ i) (hd : ∀ x, ddC n S (hubC x)) (hh : v < 6 → ∀ j r m, j ≤ n → m ≤ j → okC n S r m (hub (v + 1) j) (hubC (Int32.ofNat (v + 1)) (cS S j (-1) r m))) (hg : v < 6 → ∀ j, j ≤ n → gM n j (50 + 2 * v) PC (hub (v + 1) j)) :
    okC n S r m (pUnitO b n hub v i) (f_X5_readUnit_o hubC (Int32.ofNat v) (cS S i (-1) r m)) := by
  have n2 := TB.1
  have s1 := sk_ge (b := b) hi
  have s2 := sk_le (b := b) hi
  unfold pUnitO f_X5_readUnit_o
  rw [show f_X9_sign (cS S i (-1) r m) = some (pk b n i, cS S (sk b n i) (-1) r m) from c_sign1 (lS_T T) n2 hi, zbE]
  by_cases q : pk b n i = 33
  · have lt : sk b n i < n := pkn_lt q (by decide)
    rw [if_pos q, if_neg (nn q)]
    by_cases q4 : v < 6
    · rw [if_pos q4, c_enters1 q4, zbE, if_neg (show ¬ (1 : Int32) = 0 by decide), io_sc]
      refine okC_b (hh q4 (sk b n i + 1) r m (by omega) (by omega)) (fun i1 c1 h1 => ?_) (ddC_b (ddC_put _) ddC_s)
      obtain ⟨g1, g2, g3, -⟩ := hg q4 (sk b n i + 1) (by omega) i1 c1 h1
      exact okC_z (okC_p 33 (by omega))
    · rw [if_neg q4, c_enters0 q4 hv, zbE, if_pos rfl]
      exact okC_l s2 s2 (by omega) rfl
  · rw [if_neg q, if_pos q]
    by_cases q3 : pk b n i = 40
    · have lt : sk b n i < n := pkn_lt q3 (by decide)
      rw [if_pos q3, if_neg (nn q3)]
      by_cases q4 : v < 6
      · have hg' : ∀ j, j ≤ n → gM n j (48 + 2 * (v + 1)) PC (hub (v + 1) j) := fun j hj => by
          rw [show 48 + 2 * (v + 1) = 50 + 2 * v by omega]
          exact hg q4 j hj
        rw [if_pos q4, c_enters1 q4, zbE, if_neg (show ¬ (1 : Int32) = 0 by decide), io_sc]
        refine okC_b (c_condO T TB (show sk b n i + 1 ≤ n by omega) (by omega) (hh q4) hg') (fun i1 c1 h1 => ?_) (ddC_b (ddC_needs T n2 (by decide)) ddC_s)
        obtain ⟨g1, g2, g3, -⟩ := pCond_g TB (show sk b n i + 1 ≤ n by omega) hg' i1 c1 h1
        exact okC_z (c_nd T n2 g2 41 c1 (by omega))
      · rw [if_neg q4, c_enters0 q4 hv, zbE, if_pos rfl]
        exact okC_l s2 s2 (by omega) rfl
    · rw [if_neg q3, if_pos q3]
      refine okC_b (c_sum T TB hv s2 (by omega)) (fun i1 c1 h1 => ?_) (ddC_b (ddC_rel T n2 _) ddC_s)
      obtain ⟨g1, g2, g3, -⟩ := pSum_g TB hv s2 i1 c1 h1
      exact okC_z (c_rel T TB hv g2 (by omega))
theorem c_unitG (T : CTx S b n) (TB : TxB b n) : ∀ (g v i : Nat) (r : Nat → Int32) (m : Nat), 8 ≤ g + v → v ≤ 6 → i ≤ n → m ≤ i → okC n S r m (pUnitG b n g v i) (f_X5_readUnit_g g (Int32.ofNat v) (cS S i (-1) r m))
  | 0, v, i, r, m, h1, h2, _, _ => by omega
  | g + 1, v, i, r, m, h1, hv, hi, hm => c_unitO T TB hv hi hm (fun x => ddC_unitG T TB.1 g x (by omega)) (fun h6 j r m hj hm => c_unitG T TB g (v + 1) j r m (by omega) (by omega) hj hm) (fun h6 j hj => by
      have := pUnitG_g TB g (v + 1) j (by omega) hj
      rw [show 48 + 2 * (v + 1) = 50 + 2 * v by omega] at this
      exact this)
end PC
