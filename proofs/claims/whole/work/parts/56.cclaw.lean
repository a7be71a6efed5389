/-! The class reads a law: clauses, the whole. -/
section PD
variable {b : Nat → Int32} {n : Nat} {S : zS} {i m : Nat} {f : Int32} {r : Nat → Int32}
theorem pTail_g (TB : TxB b n) (hi : i ≤ n) {i0 : Nat} {c : List Int32} (h3 : c.length + (i0 + 1) ≤ i) {i' : Nat} {d : List Int32} (h : pTail b n i c = .inr (i', d)) : i0 < i' ∧ i' ≤ n ∧ d.length + i0 ≤ i' := by
  have s1 := sk_ge (b := b) hi
  obtain ⟨i1, c1, h1, h2⟩ := pB_inr h
  obtain ⟨q1, q2⟩ := pNeed_inr h1
  injection q2 with q3 q4
  have lt := pkn_lt q1 (by decide)
  obtain ⟨i2, c2, h4, h5⟩ := pB_inr h2
  obtain ⟨g1, g2, g3, -⟩ := pSum_g TB (w := 0) (by omega) (show i1 ≤ n by omega) i2 c2 h4
  injection h5 with h5
  injection h5 with e1 e2
  subst e1 e2 q4
  refine ⟨by omega, g2, ?_⟩
  rw [List.length_append, List.length_append, List.length_append]
  show c1.length + 1 + c2.length + 1 + i0 ≤ _
  omega
theorem pClause_g (TB : TxB b n) (hi : i ≤ n) {i' : Nat} {d : List Int32} (h : pClause b n i = .inr (i', d)) : i < i' ∧ i' ≤ n ∧ d.length + i ≤ i' := by
  have s1 := sk_ge (b := b) hi
  obtain ⟨i1, c1, h1, h2⟩ := pB_inr h
  obtain ⟨q1, q2⟩ := pNeed_inr h1
  injection q2 with q3 q4
  have lt := pkn_lt q1 (by decide)
  obtain ⟨i2, c2, h3, h4⟩ := pB_inr h2
  obtain ⟨q5, q6⟩ := pNeed_inr h3
  injection q6 with q7 q8
  have i1n : i1 ≤ n := by omega
  have lt1 := pkn_lt q5 (by decide)
  have t1 := sk_ge (b := b) i1n
  have i2n : i2 ≤ n := by omega
  have u1 := sk_ge (b := b) i2n
  have u2 := sk_le (b := b) i2n
  have hg := fun j hj => pUnitG_g (b := b) TB 16 0 j (by omega) hj
  by_cases a : pk b n i2 = 33 ∨ pk b n i2 = 40
  · rw [if_pos a] at h4
    obtain ⟨i3, c3, h5, h6⟩ := pB_inr h4
    obtain ⟨g1, g2, g3, -⟩ := pCond_g TB u2 hg i3 c3 h5
    exact pTail_g TB g2 (by omega) h6
  · rw [if_neg a] at h4
    obtain ⟨i3, c3, h5, h6⟩ := pB_inr h4
    obtain ⟨g1, g2, g3, g4, -⟩ := pSum_g TB (w := 0) (by omega) u2 i3 c3 h5
    have v1 := sk_ge (b := b) g2
    have v2 := sk_le (b := b) g2
    by_cases a3 : pk b n i3 = 61 ∨ pk b n i3 = 60 ∨ pk b n i3 = 62
    · rw [if_pos a3] at h6
      obtain ⟨i4, c4, k1, k2⟩ := pB_inr h6
      obtain ⟨i5, c5, k3, k4⟩ := pB_inr k2
      obtain ⟨i6, c6, k5, k6⟩ := pB_inr k4
      obtain ⟨m1, m2, m3, m4, m5⟩ := pRel_g TB (w := 0) (by omega) (show sk b n i2 < sk b n i3 by omega) v2 (by omega) g4 i4 c4 k1
      obtain ⟨p1, p2, p3, p4, p5⟩ := pUnitsL_g TB hg 200 i4 c4 m1 m2 m3 (m4.mono (by omega)) m5 i5 c5 k3
      obtain ⟨o1, o2, o3, -⟩ := pTruthsL_g TB hg 200 i5 c5 p1 p2 p3 (p4.mono (by omega)) p5 i6 c6 k5
      exact pTail_g TB o2 (by omega) k6
    · rw [if_neg a3] at h6
      injection h6 with h6
      injection h6 with e1 e2
      subst e1 e2
      refine ⟨by omega, v2, ?_⟩
      rw [List.length_append]
      show c3.length + 1 + i ≤ _
      omega
def tailC (S' : zS) : Option (Unit × zS) :=
  zb (f_X9_needs 63 S') fun _ S16 =>
  zb (f_X5_put 63 S16) fun _ S19 =>
  zb (f_X5_readSum 0 S19) fun _ S22 =>
  zb (f_X5_put 59 S22) fun _ S25 =>
  some ((), S25)
theorem ddC_tail (T : CTx S b n) (n2 : n ≤ 200) : ddC n S tailC := ddC_b (ddC_needs T n2 (by decide)) (ddC_b (ddC_put _) (ddC_b (ddC_rsum T n2 0) (ddC_b (ddC_put _) ddC_s)))
theorem c_tail (T : CTx S b n) (TB : TxB b n) (hi : i ≤ n) {c : List Int32} (hm : m + c.length ≤ i) : okC n S r m (pTail b n i c) (tailC (cS S i (-1) (wl r m c) (m + c.length))) := by
  have n2 := TB.1
  have s1 := sk_ge (b := b) hi
  unfold pTail tailC
  refine okC_b (c_nd T n2 hi 63 c (by omega)) (fun i1 c1 h1 => ?_) (ddC_b (ddC_put _) (ddC_b (ddC_rsum T n2 0) (ddC_b (ddC_put _) ddC_s)))
  obtain ⟨q1, q2⟩ := pNeed_inr h1
  injection q2 with q3 q4
  subst q4
  have lt := pkn_lt q1 (by decide)
  have P := (okC_p (n := n) (S := S) (r := r) (m := m) (i' := i1) (c := c1) 63 (by omega)).2 i1 _ rfl
  rw [P, zbE]
  have ln : (c1 ++ [63]).length = c1.length + 1 := by rw [List.length_append]; rfl
  refine okC_b (c_sum (v := 0) T TB (by omega) (show i1 ≤ n by omega) (show m + (c1 ++ [63]).length ≤ i1 by omega)) (fun i2 c2 h2 => ?_) (ddC_b (ddC_put _) ddC_s)
  obtain ⟨g1, g2, g3, -⟩ := pSum_g TB (w := 0) (by omega) (show i1 ≤ n by omega) i2 c2 h2
  have l2 : m + (c1 ++ [63]).length + c2.length = m + (c1 ++ [63] ++ c2).length := by rw [List.length_append (as := c1 ++ [63])]; omega
  rw [wl_app, l2]
  exact okC_z (okC_p 59 (by omega))
theorem ddC_clause (T : CTx S b n) (n2 : n ≤ 200) : ddC n S f_X5_readClause := by
  refine ddC_b (ddC_needs T n2 (by decide)) (ddC_b (ddC_needs T n2 (x := 58) (by decide)) (g2 := fun S4 => zb (f_X9_sign S4) fun r8 S7 =>
    zl (fun (u12 : Unit) => zb (f_X5_readCondition 0 S7) fun _ S13 => tailC S13) fun J11 =>
    if r8 = 33 then J11 () else if ¬ r8 = 40 then
    zb (f_X5_readSum 0 S7) fun _ S29 =>
    zb (f_X9_sign S29) fun r33 S32 =>
    zb (f_X5_isRelation r33 S32) fun r36 S35 =>
    zl (fun (q41 : Int32) (S40 : zS) => zl (fun (S44 : zS) => zb (f_X5_put 59 S44) fun _ S45 => some ((), S45)) fun J43 =>
    if q41 = 0 then J43 S40 else
    zb (f_X9_needs 63 S40) fun _ S48 => zb (f_X5_put 63 S48) fun _ S51 => zb (f_X5_readSum 0 S51) fun _ S54 => J43 S54) fun J39 =>
    if r36 = 0 then J39 0 S35 else
    zb (f_X5_readRelation 0 S35) fun _ S57 => zb (f_X5_readMoreUnits 0 S57) fun _ S60 => zb (f_X5_readMoreTruths 0 S60) fun _ S63 => J39 1 S63
    else J11 ()) (ddC_sign T n2 ?_))
  refine ddC_b (ddC_rsum T n2 0) (ddC_sign T n2 ?_)
  exact ddC_b (ddC_put _) ddC_s
theorem c_clause (T : CTx S b n) (TB : TxB b n) (hi : i ≤ n) (hm : m ≤ i) : okC n S r m (pClause b n i) (f_X5_readClause (cS S i (-1) r m)) := by
  have n2 := TB.1
  have s1 := sk_ge (b := b) hi
  have s2 := sk_le (b := b) hi
  have dd2 : ddC n S (fun S4 => zb (f_X9_sign S4) fun r8 S7 =>
    zl (fun (u12 : Unit) => zb (f_X5_readCondition 0 S7) fun _ S13 => tailC S13) fun J11 =>
    if r8 = 33 then J11 () else if ¬ r8 = 40 then
    zb (f_X5_readSum 0 S7) fun _ S29 =>
    zb (f_X9_sign S29) fun r33 S32 =>
    zb (f_X5_isRelation r33 S32) fun r36 S35 =>
    zl (fun (q41 : Int32) (S40 : zS) => zl (fun (S44 : zS) => zb (f_X5_put 59 S44) fun _ S45 => some ((), S45)) fun J43 =>
    if q41 = 0 then J43 S40 else
    zb (f_X9_needs 63 S40) fun _ S48 => zb (f_X5_put 63 S48) fun _ S51 => zb (f_X5_readSum 0 S51) fun _ S54 => J43 S54) fun J39 =>
    if r36 = 0 then J39 0 S35 else
    zb (f_X5_readRelation 0 S35) fun _ S57 => zb (f_X5_readMoreUnits 0 S57) fun _ S60 => zb (f_X5_readMoreTruths 0 S60) fun _ S63 => J39 1 S63
    else J11 ()) := ddC_sign T n2 (ddC_b (ddC_rsum T n2 0) (ddC_sign T n2 (ddC_b (ddC_put _) ddC_s)))
  have N1 := c_nd (r := r) (m := m) T n2 hi 121 [] (show m + 0 ≤ 202 by omega)
  refine okC_b N1 (fun i1 c1 h1 => ?_) (ddC_b (ddC_needs T n2 (by decide)) dd2)
  obtain ⟨q1, q2⟩ := pNeed_inr h1
  injection q2 with q3 q4
  subst q4
  have lt := pkn_lt q1 (by decide)
  have i1n : i1 ≤ n := by omega
  have t1 := sk_ge (b := b) i1n
  refine okC_b (c_nd (r := r) (m := m) T n2 i1n 58 [] (show m + 0 ≤ 202 by omega)) (fun i2 c2 h2 => ?_) dd2
  obtain ⟨q5, q6⟩ := pNeed_inr h2
  injection q6 with q7 q8
  subst q8
  have lt1 := pkn_lt q5 (by decide)
  have i2n : i2 ≤ n := by omega
  have u1 := sk_ge (b := b) i2n
  have u2 := sk_le (b := b) i2n
  have hh := fun j r m hj hm => c_unitG T TB 16 0 j r m (by omega) (by omega) hj hm
  have hd := fun x => ddC_unitG T n2 16 x (by omega)
  have hg := fun j hj => pUnitG_g (b := b) TB 16 0 j (by omega) hj
  show okC n S r m _ (zb (f_X9_sign (cS S i2 (-1) r m)) _)
  rw [show f_X9_sign (cS S i2 (-1) r m) = some (pk b n i2, cS S (sk b n i2) (-1) r m) from c_sign1 (lS_T T) n2 i2n, zbE, zlE]
  have J11 : okC n S r m (pB (pCond b n (pUnitG b n 16) 0 (sk b n i2)) (fun i3 c => pTail b n i3 c)) (zb (f_X5_readCondition 0 (cS S (sk b n i2) (-1) r m)) fun _ S13 => tailC S13) := by
    refine okC_b (c_condO T TB u2 (by omega) hh hg) (fun i3 c3 h3 => ?_) (ddC_tail T n2)
    obtain ⟨g1, g2, g3, -⟩ := pCond_g TB u2 hg i3 c3 h3
    exact c_tail T TB g2 (by omega)
  by_cases a1 : pk b n i2 = 33
  · rw [if_pos (Or.inl a1), if_pos a1]
    exact J11
  · rw [if_neg a1]
    by_cases a2 : pk b n i2 = 40
    · rw [if_pos (Or.inr a2), if_neg (nn a2)]
      exact J11
    · rw [if_neg (fun h => h.elim a1 a2), if_pos a2]
      refine okC_b (c_sum (v := 0) T TB (by omega) u2 (by omega)) (fun i3 c3 h3 => ?_) (ddC_sign T n2 (ddC_b (ddC_put _) ddC_s))
      obtain ⟨g1, g2, g3, g4, -⟩ := pSum_g TB (w := 0) (by omega) u2 i3 c3 h3
      have v1 := sk_ge (b := b) g2
      have v2 := sk_le (b := b) g2
      rw [show f_X9_sign (cS S i3 (-1) (wl r m c3) (m + c3.length)) = some (pk b n i3, cS S (sk b n i3) (-1) (wl r m c3) (m + c3.length)) from c_sign1 (lS_T T) n2 g2, zbE, c_isRel, zbE, zlE]
      by_cases a3 : pk b n i3 = 61 ∨ pk b n i3 = 60 ∨ pk b n i3 = 62
      · rw [if_pos a3, if_pos a3, if_neg (show ¬ (1 : Int32) = 0 by decide)]
        have dt : ddC n S tailC := ddC_tail T n2
        refine okC_b (c_rel (v := 0) T TB (by omega) v2 (show m + c3.length ≤ sk b n i3 by omega)) (fun i4 c4 k1 => ?_) (ddC_b (ddC_units T n2 (f_X5_readUnit_g 16) 0) (ddC_b (ddC_truths T n2 (f_X5_readUnit_g 16) 0) dt))
        obtain ⟨m1, m2, m3, m4, m5⟩ := pRel_g TB (w := 0) (by omega) (show sk b n i2 < sk b n i3 by omega) v2 (by omega) g4 i4 c4 k1
        refine okC_b (c_unitsL T TB hh hg 200 i4 0 zN c4 m2 (by omega) (by omega) (by unfold zN; omega) (by omega)) (fun i5 c5 k3 => ?_) (ddC_b (ddC_truths T n2 (f_X5_readUnit_g 16) 0) dt)
        obtain ⟨p1, p2, p3, p4, p5⟩ := pUnitsL_g TB hg 200 i4 c4 m1 m2 m3 (m4.mono (by omega)) m5 i5 c5 k3
        refine okC_b (c_truthsL T TB hh hg 200 i5 0 zN c5 p2 (by omega) (by omega) (by unfold zN; omega) (by omega)) (fun i6 c6 k5 => ?_) dt
        obtain ⟨o1, o2, o3, -⟩ := pTruthsL_g TB hg 200 i5 c5 p1 p2 p3 (p4.mono (by omega)) p5 i6 c6 k5
        exact c_tail T TB o2 (by omega)
      · rw [if_neg a3, if_neg a3, if_pos rfl]
        exact okC_z (okC_p 59 (by omega))
def resL (m : zPR) : Int32 := match m with
  | .inl x => Int32.ofNat x
  | .inr _ => -1
theorem c_firstL (T : CTx S b n) (TB : TxB b n) : ∀ (k i x fu : Nat) (c : List Int32), i ≤ n → 400 ≤ i + 2 * k → x + k = 200 → k + 1 < fu → c.length ≤ i →
    ∃ A', f_X5_firstWrong_L16 (fun (q15 : Int32) (q16 : Int32) (S14 : zS) => zb (f_X9_needsEnd S14) fun _ S17 => some (S17.1 1 3, S17)) fu 1 (Int32.ofNat x) (cS S i (-1) (wl r 0 c) (0 + c.length)) = some (resL (pClauses b n k i c), A') ∧
      (∃ i' f' r' m', A' = cS S i' f' r' m') ∧ ∀ i' cs, pClauses b n k i c = .inr (i', cs) → A' = cS S i' (-1) (wl r 0 cs) (0 + cs.length)
  | 0, i, x, fu, c, hi, hk, hx, hf, hm => by
    have n2 := TB.1
    omega
  | k + 1, i, x, fu, c, hi, hk, hx, hf, hm => by
    obtain ⟨z, rfl⟩ : ∃ z, fu = z + 1 := ⟨fu - 1, by omega⟩
    obtain ⟨z', rfl⟩ : ∃ z', z = z' + 1 := ⟨z - 1, by omega⟩
    have n2 := TB.1
    have K := c_clause (r := wl r 0 c) (m := 0 + c.length) T TB hi (by omega)
    rw [f_X5_firstWrong_L16, if_neg (show ¬ (1 : Int32) = 0 by decide), if_neg (fun q => by have := (io_le (a := 200) (by omega) (by omega)).mp q; omega), pClauses]
    have fin : ∀ (y : Int32) (S14 : zS), f_X5_firstWrong_L16 (fun (q15 : Int32) (q16 : Int32) (S14 : zS) => zb (f_X9_needsEnd S14) fun _ S17 => some (S17.1 1 3, S17)) (z' + 1) 0 y S14 = zb (f_X9_needsEnd S14) fun _ S17 => some (S17.1 1 3, S17) := fun y S14 => by
      rw [f_X5_firstWrong_L16, if_pos rfl]
    cases hc : pClause b n i with
    | inl y =>
      obtain ⟨hy, i', r', m', h1, h2, ho⟩ := K.1 y hc
      rw [ho, zbE, show f_X9_takes 59 (cS S i' (Int32.ofNat y) r' m') = some (0, cS S (sk b n i') (Int32.ofNat y) r' m') from c_takes0 (lS_T T) n2 h1 (by omega) (by decide), zbE, zlE, fin, show f_X9_needsEnd (cS S (sk b n i') (Int32.ofNat y) r' m') = some ((), cS S (sk b n (sk b n i')) (Int32.ofNat y) r' m') from c_end0 (lS_T T) n2 (sk_le h1) (by omega), zbE]
      refine ⟨cS S (sk b n (sk b n i')) (Int32.ofNat y) r' m', ?_, ⟨_, _, _, _, rfl⟩, fun i' cs h => by cases h⟩
      rw [show (cS S (sk b n (sk b n i')) (Int32.ofNat y) r' m').1 1 3 = Int32.ofNat y from tS_3]
      rfl
    | inr q =>
      obtain ⟨i1, d⟩ := q
      obtain ⟨g1, g2, g3⟩ := pClause_g TB hi hc
      have t1 := sk_ge (b := b) g2
      have t2 := sk_le (b := b) g2
      rw [K.2 i1 d hc, zbE, wl_app, show 0 + c.length + d.length = 0 + (c ++ d).length by rw [List.length_append]; omega, show f_X9_takes 59 (cS S i1 (-1) (wl r 0 (c ++ d)) (0 + (c ++ d).length)) = if pk b n i1 = 59 then some (1, cS S (sk b n i1 + 1) (-1) (wl r 0 (c ++ d)) (0 + (c ++ d).length)) else some (0, cS S (sk b n i1) (-1) (wl r 0 (c ++ d)) (0 + (c ++ d).length)) from c_takes1 (lS_T T) n2 g2 59]
      show ∃ A', _ = some (resL (if pk b n i1 = 59 then pClauses b n k (sk b n i1 + 1) (c ++ d) else if sk b n i1 < n then .inl (sk b n i1) else .inr (sk b n i1, c ++ d)), A') ∧ _ ∧ ∀ i' cs, (if pk b n i1 = 59 then pClauses b n k (sk b n i1 + 1) (c ++ d) else if sk b n i1 < n then .inl (sk b n i1) else .inr (sk b n i1, c ++ d)) = .inr (i', cs) → _
      by_cases q : pk b n i1 = 59
      · have lt : sk b n i1 < n := pkn_lt q (by decide)
        rw [if_pos q, if_pos q, zbE, zlE, io_sc]
        exact c_firstL T TB k (sk b n i1 + 1) (x + 1) (z' + 1) (c ++ d) (by omega) (by omega) (by omega) (by omega) (by rw [List.length_append]; omega)
      · rw [if_neg q, if_neg q, zbE, zlE, fin, show f_X9_needsEnd (cS S (sk b n i1) (-1) (wl r 0 (c ++ d)) (0 + (c ++ d).length)) = if pk b n (sk b n i1) = 0 then some ((), cS S (sk b n (sk b n i1)) (-1) (wl r 0 (c ++ d)) (0 + (c ++ d).length)) else some ((), cS S (sk b n (sk b n i1)) (Int32.ofNat (sk b n (sk b n i1))) (wl r 0 (c ++ d)) (0 + (c ++ d).length)) from c_end1 (lS_T T) n2 t2, pk_sk g2, sk_sk g2]
        by_cases q2 : sk b n i1 < n
        · rw [if_neg (fun h => (pk_0 TB g2).mp h q2), if_pos q2, zbE]
          refine ⟨cS S (sk b n i1) (Int32.ofNat (sk b n i1)) (wl r 0 (c ++ d)) (0 + (c ++ d).length), ?_, ⟨_, _, _, _, rfl⟩, fun i' cs h => by cases h⟩
          rw [show (cS S (sk b n i1) (Int32.ofNat (sk b n i1)) (wl r 0 (c ++ d)) (0 + (c ++ d).length)).1 1 3 = Int32.ofNat (sk b n i1) from tS_3]
          rfl
        · rw [if_pos ((pk_0 TB g2).mpr q2), if_neg q2, zbE]
          refine ⟨cS S (sk b n i1) (-1) (wl r 0 (c ++ d)) (0 + (c ++ d).length), ?_, ⟨_, _, _, _, rfl⟩, fun i' cs h => ?_⟩
          · rw [show (cS S (sk b n i1) (-1) (wl r 0 (c ++ d)) (0 + (c ++ d).length)).1 1 3 = -1 from tS_3]
            rfl
          · injection h with h
            injection h with e1 e2
            rw [e1, e2]
/-- only tape's cursor and the reader's own rows have changed -/
def frT (P : Nat → Prop) (A A' : zS) : Prop := A'.2 = A.2 ∧ (∀ a, a ≠ 1 → ¬ P a → A'.1 a = A.1 a) ∧ ∀ k, k ≠ 2 → k ≠ 3 → A'.1 1 k = A.1 1 k
theorem rewind_eq (A : zS) : f_X9_rewind A = some ((), tS A 0 (-1)) := by
  unfold f_X9_rewind tS
  rw [zlE, zlE, sV_eq, sV_eq, sR_sR, sR_at]
  rfl
theorem c_lawFirst {A : zS} (T : CTx A b n) (TB : TxB b n) : ∃ A', f_X5_firstWrong A = some (resL (pLaw b n), A') ∧ frT (fun a => a = 7 ∨ a = 8) A A' ∧ ∀ i' cs, pLaw b n = .inr (i', cs) → A'.1 7 2 = Int32.ofNat cs.length ∧ ∀ (k : Nat) (h : k < cs.length), A'.1 8 k = cs[k] := by
  have n2 := TB.1
  have e1 : sV (tS A 0 (-1)) 7 2 0 = cS A 0 (-1) (wl (A.1 8) 0 []) (0 + ([] : List Int32).length) := by
    unfold cS
    rw [tS_sk (by decide)]
    congr 1
    unfold lS
    rw [sV_eq]
    have : (sR A 7 (ru (A.1 7) 2 0)).1 8 = A.1 8 := sR_ne _ _ (by decide)
    show sR A 7 (ru (A.1 7) 2 0) = sR (sR A 7 (ru (A.1 7) 2 0)) 8 (A.1 8)
    rw [← this, sR_self]
  obtain ⟨A', h1, ⟨i', f', r', m', h2⟩, h3⟩ := c_firstL (r := A.1 8) T TB 200 0 0 zN [] (by omega) (by omega) (by omega) (by unfold zN; omega) (Nat.zero_le _)
  refine ⟨A', ?_, ?_, fun i2 cs h => ?_⟩
  · unfold f_X5_firstWrong
    rw [rewind_eq, zbE, zlE, e1]
    exact h1
  · rw [h2]
    refine ⟨rfl, fun a ha hp => ?_, fun k h2 h3 => ?_⟩
    · show (tS (lS A r' m') i' f').1 a = _
      rw [tS_b ha, lS_b (fun q => hp (Or.inl q)) (fun q => hp (Or.inr q))]
    · show (tS (lS A r' m') i' f').1 1 k = _
      unfold tS
      rw [sR_at, ru_ne h3, ru_ne h2, lS_b (by decide) (by decide)]
  · rw [h3 i2 cs h]
    refine ⟨?_, fun k hk => ?_⟩
    · show (tS (lS A (wl (A.1 8) 0 cs) (0 + cs.length)) i2 (-1)).1 7 2 = _
      rw [tS_b (by decide), lS_7, Nat.zero_add]
    · show (tS (lS A (wl (A.1 8) 0 cs) (0 + cs.length)) i2 (-1)).1 8 k = _
      rw [tS_b (by decide), lS_8]
      have := wl_get cs (A.1 8) 0 k hk
      rw [Nat.zero_add] at this
      exact this
end PD
