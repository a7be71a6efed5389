/-! Plans: the whole. -/
section PF
variable {b : Nat → Int32} {n : Nat} {S : zS} {i : Nat} {f w : Int32}
theorem get_snoc {c : List Int32} {v : Int32} {g : Nat → Int32} (h : ∀ (j : Nat) (hj : j < c.length), g j = c[j]) (hv : g c.length = v) : ∀ (j : Nat) (hj : j < (c ++ [v]).length), g j = (c ++ [v])[j] := by
  intro j hj
  by_cases q : j < c.length
  · rw [List.getElem_append_left q]
    exact h j q
  · have e : j = c.length := by
      rw [List.length_append] at hj
      have : [v].length = 1 := rfl
      omega
    subst e
    rw [List.getElem_append_right (Nat.le_refl _)]
    simpa using hv
def frX (P : Nat → Prop) (S S' : zS) : Prop := S'.2 = S.2 ∧ ∀ a, ¬ P a → S'.1 a = S.1 a
theorem frX.rfl' {P : Nat → Prop} (S : zS) : frX P S S := ⟨rfl, fun _ _ => rfl⟩
theorem frX.tr {P : Nat → Prop} {S S' S2 : zS} (h1 : frX P S S') (h2 : frX P S' S2) : frX P S S2 := ⟨h2.1.trans h1.1, fun a ha => (h2.2 a ha).trans (h1.2 a ha)⟩
theorem frX.set {P : Nat → Prop} (S : zS) {a : Nat} (h : P a) (k : Nat) (x : Int32) : frX P S (sV S a k x) := by
  rw [sV_eq]
  exact ⟨rfl, fun c hc => sR_ne _ _ (fun q => hc (by rw [q]; exact h))⟩
theorem frX.C {P : Nat → Prop} {S S' : zS} (h : frX P S S') (h1 : ¬ P 1) (h2 : ¬ P 2) (T : CTx S b n) : CTx S' b n := ⟨by rw [h.2 1 h1]; exact T.1, by rw [h.2 2 h2]; exact T.2⟩
theorem frX.R {P : Nat → Prop} {S S' : zS} (h : frX P S S') (h1 : ¬ P 41) (h2 : ¬ P 42) (h3 : ¬ P 43) (T : RTx S b n) : RTx S' b n := by
  unfold RTx
  rw [h.1, h.2 41 h1, h.2 42 h2, h.2 43 h3]
  exact T
theorem pB_l (x : Nat) (F : Nat → List Int32 → zPR) : pB (.inl x) F = .inl x := rfl
theorem pB_r (i : Nat) (c : List Int32) (F : Nat → List Int32 → zPR) : pB (.inr (i, c)) F = F i c := rfl
def P9 (a : Nat) : Prop := a = 9 ∨ a = 10
theorem c_planL (TB : TxB b n) : ∀ (k i x fu : Nat) (c : List Int32) (S : zS), CTx S b n → i ≤ n → c.length = x → x + (k + 1) = 16 → k + 1 < fu → S.1 9 2 = Int32.ofNat x → (∀ (j : Nat) (hj : j < c.length), S.1 10 j = c[j]) →
    ∃ S' i' f', f_X6_firstWrong_L16 (fun (q23 : Int32) (q24 : Int32) (S22 : zS) => zb (f_X9_needsEnd S22) fun _ S25 => some (S25.1 1 3, S25)) fu 1 (Int32.ofNat x) (tS S i (-1)) = some (resL (pSteps b n (k + 1) i c), tS S' i' f') ∧ frX P9 S S' ∧
      ∀ i2 cs, pSteps b n (k + 1) i c = .inr (i2, cs) → S'.1 9 2 = Int32.ofNat cs.length ∧ (∀ (j : Nat) (hj : j < cs.length), S'.1 10 j = cs[j])
  | k, i, x, fu, c, S, T, hi, hc, hx, hf, h9, h10 => by
    obtain ⟨z, rfl⟩ : ∃ z, fu = z + 1 := ⟨fu - 1, by omega⟩
    obtain ⟨z', rfl⟩ : ∃ z', z = z' + 1 := ⟨z - 1, by omega⟩
    have n2 := TB.1
    have fin : ∀ (y : Int32) (S14 : zS), f_X6_firstWrong_L16 (fun (q23 : Int32) (q24 : Int32) (S22 : zS) => zb (f_X9_needsEnd S22) fun _ S25 => some (S25.1 1 3, S25)) (z' + 1) 0 y S14 = zb (f_X9_needsEnd S14) fun _ S17 => some (S17.1 1 3, S17) := fun y S14 => by
      rw [f_X6_firstWrong_L16, if_pos rfl]
    obtain ⟨K1, K2⟩ := c_step T TB hi
    rw [f_X6_firstWrong_L16, if_neg (show ¬ (1 : Int32) = 0 by decide), if_neg (fun q => by have := (io_le (a := 16) (by omega) (by omega)).mp q; omega), pSteps]
    -- what is written of a step
    have wr : ∀ (v : Int32) (i' : Nat) (f' : Int32), sV (sV (tS S i' f') 10 (Int32.ofNat x).toNatClampNeg v) 9 2 ((sV (tS S i' f') 10 (Int32.ofNat x).toNatClampNeg v).1 9 2 + 1) = tS (sV (sV S 10 x v) 9 2 (Int32.ofNat (x + 1))) i' f' := by
      intro v i' f'
      rw [io_cl (by omega), tS_sk (by decide), tS_b (by decide), sV_g, if_neg (fun q => absurd q.1 (by decide)), h9, io_sc, tS_sk (by decide)]
    have F : ∀ v, frX P9 S (sV (sV S 10 x v) 9 2 (Int32.ofNat (x + 1))) := fun v => (frX.set (P := P9) S (Or.inr rfl) x v).tr (frX.set _ (Or.inl rfl) 2 _)
    have v92 : ∀ v, (sV (sV S 10 x v) 9 2 (Int32.ofNat (x + 1))).1 9 2 = Int32.ofNat (x + 1) := fun v => by rw [sV_g, if_pos ⟨rfl, rfl⟩]
    have TT : ∀ v, CTx (sV (sV S 10 x v) 9 2 (Int32.ofNat (x + 1))) b n := fun v => (F v).C (fun q => by rcases q with q | q <;> omega) (fun q => by rcases q with q | q <;> omega) T
    cases hs : pStep b n i with
    | inl y =>
      obtain ⟨hy, v, i', h1, ho⟩ := K1 y hs
      rw [ho, zbE, if_pos (io_in (by omega) (by omega)), zlE, zlE, wr, pB_l]
      refine ⟨sV (sV S 10 x v) 9 2 (Int32.ofNat (x + 1)), sk b n (sk b n i'), Int32.ofNat y, ?_, F v, fun i2 cs h => by cases h⟩
      rw [zlE, tS_b (by decide), v92 v]
      have e0 : ∀ j, j ≤ n → (zb (f_X9_needsEnd (tS (sV (sV S 10 x v) 9 2 (Int32.ofNat (x + 1))) j (Int32.ofNat y))) fun _ S17 => some (S17.1 1 3, S17)) = some (Int32.ofNat y, tS (sV (sV S 10 x v) 9 2 (Int32.ofNat (x + 1))) (sk b n j) (Int32.ofNat y)) := fun j hj => by
        rw [c_end0 (TT v) n2 hj (by omega), zbE, tS_3]
      by_cases q : (16 : Int32) ≤ Int32.ofNat (x + 1)
      · rw [if_pos q]
        simp only [zlE, fin]
        rw [e0 _ h1, sk_sk h1]
        rfl
      · rw [if_neg q, c_takes0 (TT v) n2 h1 (by omega) (by decide), zbE, if_pos rfl]
        simp only [zlE, fin]
        rw [e0 _ (sk_le h1)]
        rfl
    | inr q =>
      obtain ⟨i1, d⟩ := q
      obtain ⟨g1, g2, -⟩ := pStep_g TB hi hs
      have t2 := sk_le (b := b) g2
      obtain ⟨v, hd, ho⟩ := K2 i1 d hs
      subst hd
      rw [ho, zbE, if_pos (io_in (by omega) (by omega)), zlE, zlE, wr, zlE, tS_b (by decide), v92 v, pB_r]
      have F' := F v
      have T' := TT v
      have g92 := v92 v
      have g10 : ∀ (j : Nat) (hj : j < (c ++ [v]).length), (sV (sV S 10 x v) 9 2 (Int32.ofNat (x + 1))).1 10 j = (c ++ [v])[j] := by
        refine get_snoc (g := fun j => (sV (sV S 10 x v) 9 2 (Int32.ofNat (x + 1))).1 10 j) (fun j hj => ?_) ?_
        · show (sV (sV S 10 x v) 9 2 (Int32.ofNat (x + 1))).1 10 j = _
          rw [sV_g, if_neg (fun q => absurd q.1 (by decide)), sV_g, if_neg (fun q => by omega)]
          exact h10 j hj
        · show (sV (sV S 10 x v) 9 2 (Int32.ofNat (x + 1))).1 10 c.length = _
          rw [sV_g, if_neg (fun q => absurd q.1 (by decide)), sV_g, if_pos ⟨rfl, hc⟩]
      generalize sV (sV S 10 x v) 9 2 (Int32.ofNat (x + 1)) = S1 at F' T' g92 g10 ⊢
      have cl : (c ++ [v]).length = x + 1 := by rw [List.length_append, hc]; rfl
      have last : ∀ j, j ≤ n → ((∃ f', (zb (f_X9_needsEnd (tS S1 j (-1))) fun _ S17 => some (S17.1 1 3, S17)) = some (f', tS S1 (sk b n j) f') ∧ f' = if sk b n j < n then Int32.ofNat (sk b n j) else -1)) := by
        intro j hj
        rw [c_end1 T' n2 hj]
        by_cases q2 : sk b n j < n
        · rw [if_neg (fun h => (pk_0 TB hj).mp h q2), zbE, tS_3, if_pos q2]
          exact ⟨_, rfl, rfl⟩
        · rw [if_pos ((pk_0 TB hj).mpr q2), zbE, tS_3, if_neg q2]
          exact ⟨_, rfl, rfl⟩
      have e2 : resL (if sk b n i1 < n then .inl (sk b n i1) else .inr (sk b n i1, c ++ [v])) = if sk b n i1 < n then Int32.ofNat (sk b n i1) else -1 := by
        split <;> rfl
      by_cases q : k = 0
      · subst q
        obtain ⟨f', l1, l2⟩ := last i1 g2
        rw [if_pos (show (16 : Int32) ≤ _ from (io_le (a := 16) (by omega) (by omega)).mpr (by omega))]
        simp only [zlE, fin]
        rw [l1, l2]
        refine ⟨S1, sk b n i1, (if sk b n i1 < n then Int32.ofNat (sk b n i1) else -1), ?_, F', fun i2 cs h => ?_⟩
        · by_cases q3 : pk b n i1 = 59
          · have lt := pkn_lt q3 (by decide)
            rw [if_pos q3, if_pos trivial, if_pos lt]
            rfl
          · rw [if_neg q3, e2]
        · by_cases q3 : pk b n i1 = 59
          · rw [if_pos q3, if_pos trivial] at h
            cases h
          · rw [if_neg q3] at h
            split at h
            · cases h
            · injection h with h
              injection h with e3 e4
              subst e4
              exact ⟨by rw [g92, cl], g10⟩
      · rw [if_neg (fun q' => by have := (io_le (a := 16) (by omega) (by omega)).mp q'; omega), c_takes1 T' n2 g2]
        by_cases q3 : pk b n i1 = 59
        · have lt := pkn_lt q3 (by decide)
          rw [if_pos q3, zbE, if_neg (show ¬ (1 : Int32) = 0 by decide), zlE, io_sc, if_pos q3, if_neg q]
          obtain ⟨k', rfl⟩ : ∃ k', k = k' + 1 := ⟨k - 1, by omega⟩
          obtain ⟨S', i', f', o1, o2, o3⟩ := c_planL TB k' (sk b n i1 + 1) (x + 1) (z' + 1) (c ++ [v]) S1 T' (by omega) cl (by omega) (by omega) g92 g10
          exact ⟨S', i', f', o1, F'.tr o2, o3⟩
        · obtain ⟨f', l1, l2⟩ := last (sk b n i1) t2
          rw [sk_sk g2] at l1 l2
          rw [if_neg q3, zbE, if_pos rfl]
          simp only [zlE, fin]
          rw [l1, l2, if_neg q3, e2]
          refine ⟨S1, _, _, rfl, F', fun i2 cs h => ?_⟩
          split at h
          · cases h
          · injection h with h
            injection h with e3 e4
            subst e4
            exact ⟨by rw [g92, cl], g10⟩
theorem c_planFirst {A : zS} (T : CTx A b n) (TB : TxB b n) : ∃ A', f_X6_firstWrong A = some (resL (pPlan b n), A') ∧ frT P9 A A' ∧ ∀ i' cs, pPlan b n = .inr (i', cs) → A'.1 9 2 = Int32.ofNat cs.length ∧ ∀ (k : Nat) (h : k < cs.length), A'.1 10 k = cs[k] := by
  have F : frX P9 A (sV A 9 2 0) := frX.set A (Or.inl rfl) 2 0
  have no1 : ¬ P9 1 := fun q => by rcases q with q | q <;> omega
  have no2 : ¬ P9 2 := fun q => by rcases q with q | q <;> omega
  obtain ⟨S', i', f', o1, o2, o3⟩ := c_planL TB 15 0 0 zN [] (sV A 9 2 0) (F.C no1 no2 T) (by omega) rfl (by omega) (by unfold zN; omega) (by rw [sV_g, if_pos ⟨rfl, rfl⟩]; rfl) (fun j hj => absurd hj (Nat.not_lt_zero _))
  have F2 := F.tr o2
  refine ⟨tS S' i' f', ?_, ⟨?_, fun a h1 h2 => ?_, fun k h1 h2 => ?_⟩, fun i2 cs h => ?_⟩
  · unfold f_X6_firstWrong
    rw [rewind_eq, zbE, zlE, tS_sk (by decide)]
    exact o1
  · rw [tS_q]
    exact F2.1
  · rw [tS_b h1]
    exact F2.2 a h2
  · unfold tS
    rw [sR_at, ru_ne h2, ru_ne h1, F2.2 1 no1]
  · obtain ⟨p1, p2⟩ := o3 i2 cs h
    rw [tS_b (by decide), tS_b (by decide)]
    exact ⟨p1, p2⟩
theorem pSteps_g (TB : TxB b n) : ∀ (k i : Nat) (c : List Int32), i ≤ n → c.length + k = 16 → (∀ x ∈ c, stepOk x) → ∀ i' cs, pSteps b n k i c = .inr (i', cs) → 1 ≤ cs.length ∧ cs.length ≤ 16 ∧ ∀ x ∈ cs, stepOk x
  | 0, i, c, hi, hc, hk, i', cs, h => by cases h
  | k + 1, i, c, hi, hc, hk, i', cs, h => by
    rw [pSteps] at h
    obtain ⟨i1, d, h1, h2⟩ := pB_inr h
    obtain ⟨g1, g2, v, hd, hv⟩ := pStep_g TB hi h1
    subst hd
    have t2 := sk_le (b := b) g2
    have cl : (c ++ [v]).length = c.length + 1 := by rw [List.length_append]; rfl
    have ok : ∀ x ∈ c ++ [v], stepOk x := fun x hx => by
      rw [List.mem_append, List.mem_singleton] at hx
      rcases hx with hx | hx
      · exact hk x hx
      · rw [hx]
        exact hv
    by_cases q3 : pk b n i1 = 59
    · have lt := pkn_lt q3 (by decide)
      rw [if_pos q3] at h2
      by_cases q : k = 0
      · rw [if_pos q] at h2
        cases h2
      · rw [if_neg q] at h2
        exact pSteps_g TB k (sk b n i1 + 1) (c ++ [v]) (by omega) (by omega) ok i' cs h2
    · rw [if_neg q3] at h2
      split at h2
      · cases h2
      · injection h2 with h2
        injection h2 with e3 e4
        subst e4
        exact ⟨by omega, by omega, ok⟩
theorem pPlan_g (TB : TxB b n) {i' : Nat} {cs : List Int32} (h : pPlan b n = .inr (i', cs)) : 1 ≤ cs.length ∧ cs.length ≤ 16 ∧ ∀ x ∈ cs, stepOk x := pSteps_g TB 16 0 [] (by omega) rfl (fun x hx => absurd hx List.not_mem_nil) i' cs h
def P52 (a : Nat) : Prop := a = 52 ∨ a = 53
def frP (S S' : zS) : Prop := frX P52 S S' ∧ (∀ j, j < 64 → S'.1 52 j = S.1 52 j) ∧ ∀ j, j < 4 → S'.1 53 j = S.1 53 j
theorem frP.rfl' (S : zS) : frP S S := ⟨frX.rfl' S, fun _ _ => rfl, fun _ _ => rfl⟩
theorem frP.tr {S S' S2 : zS} (h1 : frP S S') (h2 : frP S' S2) : frP S S2 := ⟨h1.1.tr h2.1, fun j hj => (h2.2.1 j hj).trans (h1.2.1 j hj), fun j hj => (h2.2.2 j hj).trans (h1.2.2 j hj)⟩
theorem frP.s52 (S : zS) {k : Nat} (h : 64 ≤ k) (x : Int32) : frP S (sV S 52 k x) := ⟨frX.set S (Or.inl rfl) k x, fun j hj => by rw [sV_g, if_neg (fun q => by omega)], fun j hj => by rw [sV_g, if_neg (fun q => absurd q.1 (by decide))]⟩
theorem frP.s53 (S : zS) (x : Int32) : frP S (sV S 53 4 x) := ⟨frX.set S (Or.inr rfl) 4 x, fun j hj => by rw [sV_g, if_neg (fun q => absurd q.1 (by decide))], fun j hj => by rw [sV_g, if_neg (fun q => by omega)]⟩
theorem frP.R {S S' : zS} (h : frP S S') (T : RTx S b n) : RTx S' b n := h.1.R (fun q => by rcases q with q | q <;> omega) (fun q => by rcases q with q | q <;> omega) (fun q => by rcases q with q | q <;> omega) T
theorem rS_so {a k : Nat} (h : a ≠ 41) (x : Int32) : sV (rS S i f w) a k x = rS (sV S a k x) i f w := by
  unfold rS
  rw [sV_eq, sV_eq, sR_ne _ _ h, sR_ne _ _ (fun q => h q.symm), sR_cm _ _ _ (fun q => h q.symm)]
theorem r_planL : ∀ (k i x fu : Nat) (c : List Int32) (S : zS), RTx S b n → i ≤ n → c.length = x → x + (k + 1) = 16 → k + 1 < fu → (∀ (j : Nat) (hj : j < c.length), S.1 52 (64 + j) = c[j]) →
    ∃ S' i', f_X12_readPlan_L17 (fun (q28 : Int32) (q29 : Int32) (S27 : zS) => zl (sV S27 53 4 q28) fun S30 => zb (f_X12_look S30) fun r32 S31 => if r32 = (-1) then some ((), S31) else zb (f_X12_fails S31) fun r36 S35 => some ((), S35)) fu (Int32.ofNat x) 1 (rS S i (-1) w) = some ((), rS S' i' (resL (pSteps b n (k + 1) i c)) w) ∧ frP S S' ∧
      ∀ i2 cs, pSteps b n (k + 1) i c = .inr (i2, cs) → S'.1 53 4 = Int32.ofNat cs.length ∧ (∀ (j : Nat) (hj : j < cs.length), S'.1 52 (64 + j) = cs[j])
  | k, i, x, fu, c, S, T, hi, hc, hx, hf, h52 => by
    obtain ⟨z, rfl⟩ : ∃ z, fu = z + 1 := ⟨fu - 1, by omega⟩
    obtain ⟨z', rfl⟩ : ∃ z', z = z' + 1 := ⟨z - 1, by omega⟩
    have n2 := T.1
    have TB := T.tx
    obtain ⟨K1, K2⟩ := r_step (w := w) T hi
    rw [f_X12_readPlan_L17, if_neg (show ¬ (1 : Int32) = 0 by decide), show (64 : Int32) + Int32.ofNat x = Int32.ofNat (64 + x) by rw [Int32.ofNat_add]; rfl, io_cl (by omega), pSteps]
    cases hs : pStep b n i with
    | inl y =>
      obtain ⟨hy, v, i', ho⟩ := K1 y hs
      rw [ho, zbE, if_pos (io_in (by omega) (by omega)), zlE, rS_so (by decide), rS_11, if_neg (io_ne1 (by omega)), pB_l]
      exact ⟨_, _, rfl, frP.s52 S (by omega) v, fun i2 cs h => by cases h⟩
    | inr q =>
      obtain ⟨i1, d⟩ := q
      obtain ⟨g1, g2, -⟩ := pStep_g TB hi hs
      have t2 := sk_le (b := b) g2
      obtain ⟨v, hd, ho⟩ := K2 i1 d hs
      subst hd
      have F := frP.s52 S (show 64 ≤ 64 + x by omega) v
      have T' := F.R T
      have g52 : ∀ (j : Nat) (hj : j < (c ++ [v]).length), (sV S 52 (64 + x) v).1 52 (64 + j) = (c ++ [v])[j] := by
        refine get_snoc (g := fun j => (sV S 52 (64 + x) v).1 52 (64 + j)) (fun j hj => ?_) ?_
        · show (sV S 52 (64 + x) v).1 52 (64 + j) = _
          rw [sV_g, if_neg (fun q => by omega)]
          exact h52 j hj
        · show (sV S 52 (64 + x) v).1 52 (64 + c.length) = _
          rw [sV_g, if_pos ⟨rfl, by omega⟩]
      rw [ho, zbE, if_pos (io_in (by omega) (by omega)), zlE, rS_so (by decide), rS_11, if_pos rfl, zlE, pB_r]
      generalize sV S 52 (64 + x) v = S1 at F T' g52 ⊢
      have cl : (c ++ [v]).length = x + 1 := by rw [List.length_append, hc]; rfl
      rw [r_look T' g2, zbE]
      simp only [zlE, rS_up, lk_eq (show (59 : Int32) ≠ 0 by decide) (by decide), io_sc]
      by_cases q3 : pk b n i1 = 59
      · have lt := pkn_lt q3 (by decide)
        rw [if_neg (nn q3), if_neg (show ¬ (1 : Int32) = 0 by decide), if_neg (show ¬ (1 : Int32) = 0 by decide), if_pos q3]
        by_cases q : k = 0
        · subst q
          rw [if_neg (show ¬ ¬ Int32.ofNat (x + 1) = 16 from nn (by rw [show x + 1 = 16 by omega]; rfl)), r_fails1, zbE, if_pos rfl]
          exact ⟨S1, _, rfl, F, fun i2 cs h => by cases h⟩
        · obtain ⟨k', rfl⟩ : ∃ k', k = k' + 1 := ⟨k - 1, by omega⟩
          rw [if_pos (fun q' => by have := (io_eq (b := 16) (by omega) (by omega)).mp q'; omega), if_neg q]
          obtain ⟨S', i', o1, o2, o3⟩ := r_planL k' (sk b n i1 + 1) (x + 1) (z' + 1) (c ++ [v]) S1 T' (by omega) cl (by omega) (by omega) g52
          exact ⟨S', i', o1, F.tr o2, o3⟩
      · rw [if_pos q3, if_pos trivial, if_pos trivial, if_neg q3, f_X12_readPlan_L17, if_pos rfl, rS_so (by decide)]
        have F2 := frP.s53 S1 (Int32.ofNat (x + 1))
        have T2 := F2.R T'
        rw [r_look T2 t2, zbE, lk_sk g2, sk_sk g2, r_fails1, zbE]
        refine ⟨sV S1 53 4 (Int32.ofNat (x + 1)), sk b n i1, ?_, F.tr F2, fun i2 cs h => ?_⟩
        · by_cases q2 : sk b n i1 < n
          · have ne : ¬ lk b n i1 = -1 := by
              unfold lk
              rw [if_pos q2]
              obtain ⟨v, v0, v1, v2⟩ := TB.2 _ q2
              rw [v2]
              exact io_ne1 (by omega)
            rw [if_neg ne, if_pos q2]
            rfl
          · rw [if_pos (show lk b n i1 = -1 from if_neg q2), if_neg q2]
            rfl
        · split at h
          · cases h
          · injection h with h
            injection h with e3 e4
            subst e4
            refine ⟨by rw [sV_g, if_pos ⟨rfl, rfl⟩, cl], fun j hj => ?_⟩
            rw [sV_g, if_neg (fun q => absurd q.1 (by decide))]
            exact g52 j hj
theorem r_starts {bb q : Nat} (hb : bb = 42 ∨ bb = 43) (hq : bb = 42 → q + n ≤ 200) (hq' : bb = 43 → q + n ≤ 800) (hn : n ≤ 200) (ht : ∀ k, k < n → byteOk (b k) (S.1 bb (q + k))) :
    ∃ X, f_X12_starts bb (Int32.ofNat q) (Int32.ofNat n) S = some ((), rS X 0 (-1) (S.1 41 12)) ∧ RTx X b n ∧ (∀ a, a ≠ 41 → X.1 a = S.1 a) ∧ (∀ k, k ≠ 8 → k ≠ 9 → k ≠ 10 → k ≠ 11 → X.1 41 k = S.1 41 k) ∧ X.2.2 = S.2.2 ∧ (∀ a k, ¬ (a = 41 ∧ k = 5) → X.2.1 a k = S.2.1 a k) := by
  obtain ⟨X, hX⟩ : ∃ X, X = sV (sV (sV (sV (sK S 41 5 (.ref bb)) 41 8 (Int32.ofNat q)) 41 9 (Int32.ofNat n)) 41 10 0) 41 11 (-1) := ⟨_, rfl⟩
  have row : ∀ k, X.1 41 k = if k = 11 then -1 else if k = 10 then 0 else if k = 9 then Int32.ofNat n else if k = 8 then Int32.ofNat q else S.1 41 k := by
    intro k
    rw [hX]
    simp only [sV_g, true_and]
    rfl
  have oth : ∀ a, a ≠ 41 → X.1 a = S.1 a := by
    intro a ha
    rw [hX]
    funext k
    simp only [sV_g, ha, false_and, if_false]
    rfl
  have k5 : ∀ a k, X.2.1 a k = if a = 41 ∧ k = 5 then .ref bb else S.2.1 a k := by
    intro a k
    rw [hX]
    exact sK_g S 41 5 (.ref bb) a k
  refine ⟨X, ?_, ⟨hn, by rw [row]; rfl, q, by rw [row]; rfl, ?_⟩, oth, fun k h1 h2 h3 h4 => ?_, by rw [hX]; rfl, fun a k h => by rw [k5, if_neg h]⟩
  · rw [rS_self (by rw [row]; rfl) (by rw [row]; rfl) (by rw [row]; rfl), hX]
    rfl
  · rcases hb with rfl | rfl
    · exact Or.inl ⟨by rw [k5]; rfl, hq rfl, fun k hk => by rw [oth 42 (by decide)]; exact ht k hk⟩
    · exact Or.inr ⟨by rw [k5]; rfl, hq' rfl, fun k hk => by rw [oth 43 (by decide)]; exact ht k hk⟩
  · rw [row, if_neg h4, if_neg h3, if_neg h2, if_neg h1]
/-- what a reading of the reference leaves as it was -/
def frR (P : Nat → Prop) (B B' : zS) : Prop := (∀ a, a ≠ 41 → ¬ P a → B'.1 a = B.1 a) ∧ (∀ k, (k < 8 ∨ 14 < k) → k ≠ 17 → k ≠ 27 → k ≠ 28 → k ≠ 29 → B'.1 41 k = B.1 41 k) ∧ B'.2.2 = B.2.2 ∧ ∀ a k, ¬ (a = 41 ∧ k = 5) → B'.2.1 a k = B.2.1 a k
theorem r_planAll {B : zS} (hn : n ≤ 200) (h6 : B.1 41 6 = Int32.ofNat n) (ht : ∀ k, k < n → byteOk (b k) (B.1 42 k)) :
    ∃ B', f_X12_readPlan B = some ((), B') ∧ frR P52 B B' ∧ (∀ j, j < 64 → B'.1 52 j = B.1 52 j) ∧ (∀ j, j < 4 → B'.1 53 j = B.1 53 j) ∧ B'.1 41 11 = resL (pPlan b n) ∧ ∀ i' cs, pPlan b n = .inr (i', cs) → B'.1 53 4 = Int32.ofNat cs.length ∧ ∀ (j : Nat) (hj : j < cs.length), B'.1 52 (64 + j) = cs[j] := by
  obtain ⟨X, x1, x2, x3, x4, x5, x6⟩ := r_starts (S := B) (b := b) (n := n) (bb := 42) (q := 0) (Or.inl rfl) (fun _ => by omega) (fun h => by cases h) hn (fun k hk => by rw [Nat.zero_add]; exact ht k hk)
  obtain ⟨S', i', o1, o2, o3⟩ := r_planL (w := B.1 41 12) 15 0 0 zN [] X x2 (by omega) rfl (by omega) (by unfold zN; omega) (fun j hj => absurd hj (Nat.not_lt_zero _))
  refine ⟨rS S' i' (resL (pPlan b n)) (B.1 41 12), ?_, ⟨fun a h1 h2 => ?_, fun k h1 h2 h3 h4 h5 => ?_, ?_, fun a k h => ?_⟩, fun j hj => ?_, fun j hj => ?_, rS_11, fun i2 cs h => ?_⟩
  · unfold f_X12_readPlan
    rw [h6, show f_X12_starts 42 0 (Int32.ofNat n) B = _ from x1, zbE]
    exact o1
  · rw [rS_b h1, o2.1.2 a h2, x3 a h1]
  · rw [rS_k (by omega), o2.1.2 41 (fun q => by rcases q with q | q <;> omega), x4 k (by omega) (by omega) (by omega) (by omega)]
  · rw [rS_2, o2.1.1, x5]
  · rw [rS_2, o2.1.1, x6 a k h]
  · rw [rS_b (by decide), o2.2.1 j hj, x3 52 (by decide)]
  · rw [rS_b (by decide), o2.2.2 j hj, x3 53 (by decide)]
  · obtain ⟨p1, p2⟩ := o3 i2 cs h
    rw [rS_b (by decide), rS_b (by decide)]
    exact ⟨p1, p2⟩
end PF
