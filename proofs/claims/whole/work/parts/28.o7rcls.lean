/-! The reference reads a law: clauses, and what it is worth. -/
section OF
variable {b : Nat → Int32} {n : Nat} {S : zS} {i : Nat} {f w : Int32} {e : Nat → Int32}
def fnd (S : zS) (vo : Option Int32) : zS := match vo with
  | none => S
  | some v => if S.1 41 17 = 0 then sV (sV S 41 17 1) 41 14 v else S
theorem rS_sk {k : Nat} (h : k ≠ 10 ∧ k ≠ 11 ∧ k ≠ 12) (x : Int32) : sV (rS S i f w) 41 k x = rS (sV S 41 k x) i f w := by
  unfold rS
  rw [sV_eq, sV_eq, sR_sR, sR_sR, sR_at, sR_at]
  congr 1
  funext j
  unfold ru
  by_cases h0 : j = k
  · subst h0
    rw [if_pos rfl, if_neg h.2.2, if_neg h.2.1, if_neg h.1, if_pos rfl]
  · by_cases h1 : j = 10 <;> by_cases h2 : j = 11 <;> by_cases h3 : j = 12 <;> first | omega | (simp [h0, h1, h2, h3]; done) | (simp [h0, h1, h2, h3]; intro q; omega)
theorem m1 : ¬ ¬ ((-1 : Int32) = -1) := nn rfl
/-- a clause's end -/
def finR (r2 q v : Int32) (S : zS) : Option (Unit × zS) :=
  if ¬ (S.1 41 11) = (-1) then some ((), S) else
  if ¬ (S.1 41 17) = 0 then some ((), S) else
  if ¬ r2 = (S.1 41 13) then some ((), S) else
  if ¬ q = 0 then zl (sV S 41 17 1) fun S33 => zl (sV S33 41 14 v) fun S34 => some ((), S34)
  else some ((), S)
theorem finR0 {y : Nat} (hy : y < 2147483648) (r2 q v : Int32) : finR r2 q v (rS S i (Int32.ofNat y) w) = some ((), rS S i (Int32.ofNat y) w) := by
  unfold finR
  rw [rS_11, if_pos (io_ne1 hy)]
theorem finR1 (h13 : S.1 41 13 = 121) (q v : Int32) : finR 121 q v (rS S i (-1) w) = some ((), rS (fnd S (if q = 0 then none else some v)) i (-1) w) := by
  unfold finR
  rw [rS_11, if_neg m1, rS_k (k := 17) (by decide), rS_k (k := 13) (by decide), h13, if_neg (show ¬ ¬ (121 : Int32) = 121 from nn rfl), zlE, zlE, rS_sk (by decide), rS_sk (by decide)]
  by_cases q0 : q = 0
  · rw [if_neg (nn q0), if_pos q0]
    split <;> rfl
  · rw [if_pos q0, if_neg q0]
    show _ = some ((), rS (if S.1 41 17 = 0 then sV (sV S 41 17 1) 41 14 v else S) i (-1) w)
    by_cases h : S.1 41 17 = 0
    · rw [if_neg (fun h' => h' h), if_pos h]
    · rw [if_pos h, if_neg h]
def kOK (n i0 : Nat) (S : zS) (e : Nat → Int32) (m : zPR) (o : Option (Unit × zS)) : Prop :=
  (∀ x, m = .inl x → x ≤ n ∧ ∃ i' w', o = some ((), rS S i' (Int32.ofNat x) w')) ∧ ∀ i' d, m = .inr (i', d) → i0 < i' ∧ i' ≤ n ∧ d.length + i0 ≤ i' ∧ ∃ G vo, clOK d G ∧ (eB e → vo = G e) ∧ o = some ((), rS (fnd S vo) i' (-1) (Int32.ofNat 0))
theorem kOK_l {x i' i0 : Nat} {w' : Int32} {o : Option (Unit × zS)} (hx : x ≤ n) (ho : o = some ((), rS S i' (Int32.ofNat x) w')) : kOK n i0 S e (.inl x) o :=
  ⟨fun y h => by cases h; exact ⟨hx, i', w', ho⟩, fun _ _ h => by cases h⟩
theorem kOK_b {Pf : Int32 → Prop} {i0 : Nat} {w : Int32} {m : zPR} {o : Option (Int32 × zS)} {F : Nat → List Int32 → zPR} {g : Int32 → zS → Option (Unit × zS)} (h : rOK Pf n S e w m o) (hl : ∀ i' c v, m = .inr (i', c) → Pf v → (eB e → v = ev e c) → kOK n i0 S e (F i' c) (g v (rS S i' (-1) w))) (hd : ∀ x v i' w', x ≤ n → Pf v → ∃ i'' w'', g v (rS S i' (Int32.ofNat x) w') = some ((), rS S i'' (Int32.ofNat x) w'')) : kOK n i0 S e (pB m F) (zb o g) := by
  cases m with
  | inl x =>
    obtain ⟨hx, v, i', w', hv, ho⟩ := h.1 x rfl
    obtain ⟨i'', w'', p2⟩ := hd x v i' w' hx hv
    rw [ho, zbE]
    exact kOK_l hx p2
  | inr r =>
    obtain ⟨i', c⟩ := r
    obtain ⟨v, hv, he, ho⟩ := h.2 i' c rfl
    rw [ho, zbE]
    exact hl i' c v rfl hv he
theorem r_tail (T : RTx S b n) (L : RLt S e) (h13 : S.1 41 13 = 121) (hi : i ≤ n) {c : List Int32} {x : Int32} (h4 : exOK 0 c) (hx : eB e → x = ev e c) {i0 : Nat} (h3 : c.length + (i0 + 1) ≤ i) :
    kOK n i0 S e (pTail b n i c) (zb (f_X12_takes 63 (rS S i (-1) (Int32.ofNat 0))) fun r23 S22 => if ¬ r23 = 0 then zb (f_X12_sum S22) fun r27 S26 => finR 121 x r27 S26 else some ((), S22)) := by
  have n2 := T.1
  have s1 := sk_ge (b := b) hi
  have s2 := sk_le (b := b) hi
  rw [r_takes1 T hi (by decide) (by decide)]
  unfold pTail pNeed
  by_cases q : pk b n i = 63
  · have lt : sk b n i < n := pkn_lt q (by decide)
    rw [if_pos q, if_pos q, zbE, if_pos (show ¬ (1 : Int32) = 0 by decide)]
    show kOK n i0 S e (pB (pSum b n 0 (sk b n i + 1)) (fun i2 c2 => .inr (i2, c ++ [63] ++ c2 ++ [59]))) _
    refine kOK_b (r_sum T L (by omega) (show sk b n i + 1 ≤ n by omega)) (fun i1 c1 r hm _ hr => ?_) (fun y r i' w' hy _ => ?_)
    · obtain ⟨g1, g2, g3, g4, g5⟩ := pSum_g T.tx (w := 0) (by omega) (show sk b n i + 1 ≤ n by omega) i1 c1 hm
      rw [finR1 h13]
      refine ⟨fun x h => (by cases h), fun i' d h => ?_⟩
      injection h with h
      injection h with e1 e2
      subst e1 e2
      refine ⟨by omega, g2, ?_, _, _, cl_when h4 (g4.mono (by omega)), fun hb => ?_, rfl⟩
      · rw [List.length_append, List.length_append, List.length_append]
        show c.length + 1 + c1.length + 1 + i0 ≤ i1
        omega
      · rw [hx hb, hr hb]
    · rw [finR0 (by omega)]
      exact ⟨_, _, rfl⟩
  · rw [if_neg q, if_neg q, zbE, if_neg (fun h => h rfl)]
    exact kOK_l s2 rfl
theorem r_clause (T : RTx S b n) (L : RLt S e) (h13 : S.1 41 13 = 121) (hi : i ≤ n) : kOK n i S e (pClause b n i) (f_X12_clause (rS S i (-1) (Int32.ofNat 0))) := by
  have n2 := T.1
  have TB := T.tx
  have s1 := sk_ge (b := b) hi
  have s2 := sk_le (b := b) hi
  unfold f_X12_clause pClause pNeed
  rw [r_look T hi, zbE, r_am_6, zbE]
  unfold ax_6
  by_cases q : pk b n i = 121
  · have lt : sk b n i < n := pkn_lt q (by decide)
    have l1 : lk b n i = 121 := by rw [lk_eq (by decide) (by decide)]; exact q
    have hi1 : sk b n i + 1 ≤ n := by omega
    have t1 := sk_ge (b := b) hi1
    have t2 := sk_le (b := b) hi1
    rw [if_pos q, l1, if_pos rfl, if_pos (show ¬ (1 : Int32) = 0 by decide), zlE, rS_up, r_takes1 T hi1 (by decide) (by decide)]
    show kOK n i S e (pB (if pk b n (sk b n i + 1) = 58 then .inr (sk b n (sk b n i + 1) + 1, []) else .inl (sk b n (sk b n i + 1))) _) _
    by_cases q1 : pk b n (sk b n i + 1) = 58
    · have lt1 : sk b n (sk b n i + 1) < n := pkn_lt q1 (by decide)
      rw [if_pos q1, if_pos q1, zbE, if_pos (show ¬ (1 : Int32) = 0 by decide)]
      obtain ⟨i2, hi2⟩ : ∃ i2, i2 = sk b n (sk b n i + 1) + 1 := ⟨_, rfl⟩
      rw [← hi2]
      have i2n : i2 ≤ n := by omega
      have u1 := sk_ge (b := b) i2n
      have u2 := sk_le (b := b) i2n
      rw [r_look T i2n, zbE]
      simp only [lk_eq (show (33 : Int32) ≠ 0 by decide) (by decide), lk_eq (show (40 : Int32) ≠ 0 by decide) (by decide)]
      show kOK n i S e (if pk b n i2 = 33 ∨ pk b n i2 = 40 then pB (pCond b n (pUnitG b n 16) 0 (sk b n i2)) (fun i3 c => pTail b n i3 c)
          else pB (pSum b n 0 (sk b n i2)) (fun i3 c => if pk b n i3 = 61 ∨ pk b n i3 = 60 ∨ pk b n i3 = 62 then
            pB (pRel b n 0 (sk b n i3) c) (fun i4 c4 => pB (pUnitsL b n (pUnitG b n 16) 0 200 i4 c4) (fun i5 c5 => pB (pTruthsL b n (pUnitG b n 16) 0 200 i5 c5) (fun i6 c6 => pTail b n i6 c6)))
          else .inr (sk b n i3, c ++ [59]))) _
      have hh := fun j hj => r_unitG T L 16 0 j (by omega) (by omega) hj
      have hg := fun j hj => pUnitG_g (b := b) TB 16 0 j (by omega) hj
      have J17 : kOK n i S e (pB (pCond b n (pUnitG b n 16) 0 (sk b n i2)) (fun i3 c => pTail b n i3 c)) (zb (f_X12_condition 0 0 (rS S (sk b n i2) (-1) (Int32.ofNat 0))) fun r20 S19 => zb (f_X12_takes 63 S19) fun r23 S22 => if ¬ r23 = 0 then zb (f_X12_sum S22) fun r27 S26 => finR 121 r20 r27 S26 else some ((), S22)) := by
        refine kOK_b (r_condO T u2 hh hg) (fun i1 c1 r hm _ hr => ?_) (fun y r i' w' hy _ => ?_)
        · obtain ⟨g1, g2, g3, g4, g5⟩ := pCond_g TB u2 hg i1 c1 hm
          exact r_tail T L h13 g2 (g4.mono (by omega)) hr (by omega)
        · rw [r_takes0 (by omega), zbE, if_neg (fun h => h rfl)]
          exact ⟨_, _, rfl⟩
      rw [zlE]
      by_cases a1 : pk b n i2 = 33
      · rw [if_pos (Or.inl a1), if_pos a1]
        exact J17
      · rw [if_neg a1]
        by_cases a2 : pk b n i2 = 40
        · rw [if_pos (Or.inr a2), if_neg (nn a2)]
          exact J17
        · rw [if_neg (fun h => h.elim a1 a2), if_pos a2]
          refine kOK_b (r_sum T L (by omega) u2) (fun i3 c3 r hm _ hr => ?_) (fun y r i' w' hy _ => ?_)
          · obtain ⟨g1, g2, g3, g4, g5⟩ := pSum_g TB (w := 0) (by omega) u2 i3 c3 hm
            have v1 := sk_ge (b := b) g2
            have v2 := sk_le (b := b) g2
            rw [zlE, rS_11, if_neg m1, r_look T g2, zbE, r_isSign, zbE]
            by_cases a3 : pk b n i3 = 61 ∨ pk b n i3 = 60 ∨ pk b n i3 = 62
            · rw [if_pos a3, if_pos a3, if_neg (show ¬ (1 : Int32) = 0 by decide)]
              have as : ∀ (m : zPR) (F1 F2 : Nat → List Int32 → zPR), pB (pB m F1) F2 = pB m (fun i c => pB (F1 i c) F2) := by
                intro m F1 F2
                cases m with
                | inl x => rfl
                | inr r => rfl
              have e1 : pB (pRel b n 0 (sk b n i3) c3) (fun i4 c4 => pB (pUnitsL b n (pUnitG b n 16) 0 200 i4 c4) (fun i5 c5 => pB (pTruthsL b n (pUnitG b n 16) 0 200 i5 c5) (fun i6 c6 => pTail b n i6 c6))) = pB (pB (pRel b n 0 (sk b n i3) c3) (fun i4 c4 => pB (pUnitsL b n (pUnitG b n 16) 0 200 i4 c4) (fun i5 c5 => pTruthsL b n (pUnitG b n 16) 0 200 i5 c5))) (fun i6 c6 => pTail b n i6 c6) := by
                rw [as]
                congr 1
                funext i4 c4
                rw [as]
              rw [e1]
              refine kOK_b (r_cond1 T L v2 g4 hr (i0 := sk b n i2) (by omega) (by omega)) (fun i4 c4 r4 hm4 _ hr4 => ?_) (fun y r i' w' hy _ => ?_)
              · obtain ⟨i5, c5, k1, k2⟩ := pB_inr hm4
                obtain ⟨i6, c6, k3, k4⟩ := pB_inr k2
                obtain ⟨m1, m2, m3, m4, m5⟩ := pRel_g TB (w := 0) (by omega) (show sk b n i2 < sk b n i3 by omega) v2 (by omega) g4 i5 c5 k1
                obtain ⟨p1, p2, p3, p4, p5⟩ := pUnitsL_g TB hg 200 i5 c5 m1 m2 m3 (m4.mono (by omega)) m5 i6 c6 k3
                obtain ⟨o1, o2, o3, o4, o5⟩ := pTruthsL_g TB hg 200 i6 c6 p1 p2 p3 (p4.mono (by omega)) p5 i4 c4 k4
                exact r_tail T L h13 o2 (o4.mono (by omega)) hr4 (by omega)
              · rw [r_takes0 (by omega), zbE, if_neg (fun h => h rfl)]
                exact ⟨_, _, rfl⟩
            · rw [if_neg a3, if_neg a3, if_pos rfl]
              refine ⟨fun x h => (by cases h), fun i' d h => ?_⟩
              injection h with h
              injection h with e1 e2
              subst e1 e2
              refine ⟨by omega, v2, ?_, _, some r, cl_sum g4, fun hb => by rw [hr hb], ?_⟩
              · rw [List.length_append]
                show c3.length + 1 + i ≤ _
                omega
              · exact finR1 h13 1 r
          · rw [zlE, rS_11, if_pos (io_ne1 (by omega))]
            exact ⟨_, _, finR0 (by omega) 121 1 r⟩
    · rw [if_neg q1, if_neg q1, zbE, if_neg (fun h => h rfl)]
      exact kOK_l t2 rfl
  · have l1 : ¬ 121 = lk b n i := fun h => by rw [eq_comm, lk_eq (by decide) (by decide)] at h; exact q h
    rw [if_neg q, if_neg l1, if_neg (fun h => h rfl), r_fails1, zbE]
    exact kOK_l s2 rfl
/-- only found, hasFound changed -/
def frF (S S' : zS) : Prop := S'.2 = S.2 ∧ (∀ a, a ≠ 41 → S'.1 a = S.1 a) ∧ ∀ k, k ≠ 14 → k ≠ 17 → S'.1 41 k = S.1 41 k
theorem frF.rfl' (S : zS) : frF S S := ⟨rfl, fun _ _ => rfl, fun _ _ _ => rfl⟩
theorem frF.tr {S S' S2 : zS} (h1 : frF S S') (h2 : frF S' S2) : frF S S2 := ⟨h2.1.trans h1.1, fun a ha => (h2.2.1 a ha).trans (h1.2.1 a ha), fun k a c => (h2.2.2 k a c).trans (h1.2.2 k a c)⟩
theorem fnd_fr (S : zS) (vo : Option Int32) : frF S (fnd S vo) := by
  cases vo with
  | none => exact frF.rfl' S
  | some v =>
    show frF S (if S.1 41 17 = 0 then sV (sV S 41 17 1) 41 14 v else S)
    split
    · rw [sV_eq, sV_eq, sR_sR]
      exact ⟨rfl, fun a ha => sR_ne _ _ ha, fun k h1 h2 => by rw [sR_at, sR_at, ru_ne h1, ru_ne h2]⟩
    · exact frF.rfl' S
theorem frF.T {S S' : zS} (h : frF S S') (T : RTx S b n) : RTx S' b n := by
  unfold RTx
  rw [h.1, h.2.1 42 (by decide), h.2.1 43 (by decide), h.2.2 9 (by decide) (by decide), h.2.2 8 (by decide) (by decide)]
  exact T
theorem frF.L {S S' : zS} (h : frF S S') (L : RLt S e) : RLt S' e := by
  unfold RLt
  rw [h.2.1 45 (by decide)]
  exact L
theorem fnd_14 (S : zS) (vo : Option Int32) (h0 : S.1 41 17 = 0 → S.1 41 14 = 0) : ((fnd S vo).1 41 17 = 0 → (fnd S vo).1 41 14 = 0) ∧ (S.1 41 17 ≠ 0 → (fnd S vo).1 41 17 ≠ 0 ∧ (fnd S vo).1 41 14 = S.1 41 14) ∧ (S.1 41 17 = 0 → (vo = none → (fnd S vo).1 41 17 = 0 ∧ (fnd S vo).1 41 14 = 0) ∧ ∀ v, vo = some v → (fnd S vo).1 41 17 ≠ 0 ∧ (fnd S vo).1 41 14 = v) := by
  cases vo with
  | none => exact ⟨h0, fun h => ⟨h, rfl⟩, fun h => ⟨fun _ => ⟨h, h0 h⟩, fun v hv => by cases hv⟩⟩
  | some v =>
    have u : fnd S (some v) = if S.1 41 17 = 0 then sV (sV S 41 17 1) 41 14 v else S := rfl
    rw [u]
    by_cases h : S.1 41 17 = 0
    · have a1 : (sV (sV S 41 17 1) 41 14 v).1 41 17 = 1 := by
        rw [sV_eq, sV_eq, sR_sR, sR_at, sR_at, ru_ne (by decide), ru_at]
      have a2 : (sV (sV S 41 17 1) 41 14 v).1 41 14 = v := by
        rw [sV_eq, sR_at, ru_at]
      have n1 : (1 : Int32) ≠ 0 := by decide
      rw [if_pos h, a1, a2]
      exact ⟨fun q => absurd q n1, fun q => absurd h q, fun _ => ⟨fun q => (by cases q), fun v' hv => ⟨n1, Option.some.inj hv⟩⟩⟩
    · rw [if_neg h]
      exact ⟨h0, fun h => ⟨h, rfl⟩, fun q => absurd q h⟩
def gOK (n i : Nat) (S : zS) (e : Nat → Int32) (c : List Int32) (m : zPR) (o : Option (Unit × zS)) : Prop :=
  (∀ x, m = .inl x → x ≤ n ∧ ∃ S' i' w', frF S S' ∧ o = some ((), rS S' i' (Int32.ofNat x) w')) ∧ ∀ i' cs, m = .inr (i', cs) → ∃ d S' w', cs = c ++ d ∧ StI d ∧ d.length + i ≤ i' ∧ i' ≤ n ∧ frF S S' ∧ o = some ((), rS S' i' (-1) w') ∧ (S.1 41 17 ≠ 0 → S'.1 41 14 = S.1 41 14) ∧ (S.1 41 17 = 0 → eB e → S'.1 41 14 = exA e d 0 false (fun _ => 0))
theorem r_goL (bb : Nat) (v2 v3 : Int32) : ∀ (k i fu : Nat) (c : List Int32) (S : zS), RTx S b n → RLt S e → S.1 41 13 = 121 → (S.1 41 17 = 0 → S.1 41 14 = 0) → i ≤ n → 201 ≤ i + k + 1 → k < fu →
    gOK n i S e c (pClauses b n k i c) (zb (f_X12_clause (rS S i (-1) (Int32.ofNat 0))) fun _ S8 => f_X12_goThrough_L32 bb (fun (S20 : zS) =>
      if ¬ (S20.1 41 11) = (-1) then some ((), S20) else zb (f_X12_look S20) fun r23 S22 => if r23 = (-1) then some ((), S22) else zb (f_X12_fails S22) fun r27 S26 => some ((), S26)) v2 v3 fu S8)
  | 0, i, fu, c, S, T, L, h13, h0, hi, hk, hf => by
    have n2 := T.1
    have z : i = 200 := by omega
    have z2 : n = 200 := by omega
    subst z
    obtain ⟨y, rfl⟩ : ∃ y, fu = y + 1 := ⟨fu - 1, by omega⟩
    have K := r_clause T L h13 hi
    have e0 : sk b n 200 = 200 := by rw [sk_un, if_neg (fun q => by omega)]
    have e1 : pClause b n 200 = .inl 200 := by
      unfold pClause pNeed pk
      rw [e0, if_neg (show ¬ 200 < n by omega), if_neg (show ¬ (0 : Int32) = 121 by decide)]
      rfl
    obtain ⟨-, i', w', ho⟩ := K.1 200 e1
    rw [ho, zbE, f_X12_goThrough_L32, rS_11, if_pos (io_ne1 (by omega)), if_pos (io_ne1 (by omega))]
    refine ⟨fun x h => ?_, fun i' cs h => by cases h⟩
    cases h
    exact ⟨hi, S, i', w', frF.rfl' S, rfl⟩
  | k + 1, i, fu, c, S, T, L, h13, h0, hi, hk, hf => by
    have n2 := T.1
    have K := r_clause T L h13 hi
    obtain ⟨y, rfl⟩ : ∃ y, fu = y + 1 := ⟨fu - 1, by omega⟩
    rw [pClauses]
    cases hm : pClause b n i with
    | inl x =>
      obtain ⟨hx, i', w', ho⟩ := K.1 x hm
      rw [ho, zbE, f_X12_goThrough_L32, rS_11, if_pos (io_ne1 (by omega)), if_pos (io_ne1 (by omega))]
      refine ⟨fun x' h => ?_, fun i' cs h => by cases h⟩
      cases h
      exact ⟨hx, S, i', w', frF.rfl' S, rfl⟩
    | inr r =>
      obtain ⟨i1, d1⟩ := r
      obtain ⟨g1, g2, g3, G, vo, g4, g5, ho⟩ := K.2 i1 d1 hm
      have F := fnd_fr S vo
      obtain ⟨f1, f2, f3⟩ := fnd_14 S vo h0
      have T' := F.T T
      have L' := F.L L
      have s1 := sk_ge (b := b) g2
      have s2 := sk_le (b := b) g2
      show gOK n i S e c (if pk b n i1 = 59 then pClauses b n k (sk b n i1 + 1) (c ++ d1) else if sk b n i1 < n then .inl (sk b n i1) else .inr (sk b n i1, c ++ d1)) _
      rw [ho, zbE, f_X12_goThrough_L32, rS_11, if_neg m1, r_look T' g2, zbE]
      simp only [lk_eq (show (59 : Int32) ≠ 0 by decide) (by decide), rS_up, zlE]
      generalize fnd S vo = S1 at *
      by_cases q : pk b n i1 = 59
      · have lt : sk b n i1 < n := pkn_lt q (by decide)
        rw [if_pos q, if_neg (nn q)]
        have ih := r_goL bb v2 v3 k (sk b n i1 + 1) y (c ++ d1) S1 T' L' (by rw [F.2.2 13 (by decide) (by decide)]; exact h13) f1 (by omega) (by omega) (by omega)
        refine ⟨fun x h => ?_, fun i' cs h => ?_⟩
        · obtain ⟨hx, S', i', w', F', ho'⟩ := ih.1 x h
          exact ⟨hx, S', i', w', F.tr F', ho'⟩
        · obtain ⟨d, S', w', c1, c2, c3, c4, F', ho', c5, c6⟩ := ih.2 i' cs h
          refine ⟨d1 ++ d, S', w', by rw [c1, List.append_assoc], c2.cons g4, by rw [List.length_append]; omega, c4, F.tr F', ho', fun hn => ?_, fun hz hb => ?_⟩
          · obtain ⟨k1, k2⟩ := f2 hn
            rw [c5 k1, k2]
          · obtain ⟨k1, k2⟩ := f3 hz
            rcases g4.2 e d (fun _ => 0) with ⟨v, t1, t2⟩ | ⟨t1, st, t2⟩
            · obtain ⟨k3, k4⟩ := k2 v (by rw [g5 hb, t1])
              rw [c5 k3, k4, t2]
            · obtain ⟨k3, k4⟩ := k1 (by rw [g5 hb, t1])
              rw [c6 k3 hb, t2]
              exact c2.2 e _ _
      · rw [if_neg q, if_pos q, rS_11, if_neg m1, r_look T' s2, zbE, sk_sk g2, lk_sk g2]
        by_cases q2 : sk b n i1 < n
        · have ne : ¬ lk b n i1 = -1 := by
            unfold lk
            rw [if_pos q2]
            obtain ⟨v, v0, v1, v2⟩ := T.tx.2 _ q2
            rw [v2]
            exact io_ne1 (by omega)
          rw [if_pos q2, if_neg ne, r_fails1, zbE]
          refine ⟨fun x' h => ?_, fun i' cs h => by cases h⟩
          cases h
          exact ⟨s2, S1, _, _, F, rfl⟩
        · have ne : lk b n i1 = -1 := if_neg q2
          rw [if_neg q2, if_pos ne]
          refine ⟨fun x' h => (by cases h), fun i' cs h => ?_⟩
          injection h with h
          injection h with e1 e2
          subst e1 e2
          refine ⟨d1, S1, _, rfl, ?_, by omega, s2, F, rfl, fun hn => (f2 hn).2, fun hz hb => ?_⟩
          · have := StI.nil.cons g4
            rw [List.append_nil] at this
            exact this
          · obtain ⟨k1, k2⟩ := f3 hz
            rcases g4.2 e [] (fun _ => 0) with ⟨v, t1, t2⟩ | ⟨t1, st, t2⟩
            · obtain ⟨k3, k4⟩ := k2 v (by rw [g5 hb, t1])
              rw [List.append_nil] at t2
              rw [k4, t2]
            · obtain ⟨k3, k4⟩ := k1 (by rw [g5 hb, t1])
              rw [List.append_nil] at t2
              rw [k4, t2]
              rfl
theorem rS_self {X : zS} (h1 : X.1 41 10 = Int32.ofNat i) (h2 : X.1 41 11 = f) (h3 : X.1 41 12 = w) : rS X i f w = X := by
  unfold rS
  rw [← h1, ← h2, ← h3, ru_self, ru_self, ru_self, sR_self]
def stR (bb : Nat) (v2 v3 : Int32) (S : zS) : zS := sV (sV (sV (sV (sV (sV (sV (sV (sK S 41 5 (.ref bb)) 41 8 v2) 41 9 v3) 41 10 0) 41 11 (-1)) 41 13 121) 41 12 0) 41 17 0) 41 14 0
theorem r_goThrough {bb q : Nat} (hb : bb = 42 ∨ bb = 43) (hq : bb = 42 → q + n ≤ 200) (hq' : bb = 43 → q + n ≤ 800) (hn : n ≤ 200) (ht : ∀ k, k < n → byteOk (b k) (S.1 bb (q + k))) (L : RLt S e) :
    ∃ B'', f_X12_goThrough bb (Int32.ofNat q) (Int32.ofNat n) S = some ((), B'') ∧ sameR S B'' ∧ B''.1 45 = S.1 45 ∧ (∀ x, pLaw b n = .inl x → x ≤ n ∧ B''.1 41 11 = Int32.ofNat x) ∧ ∀ i' cs, pLaw b n = .inr (i', cs) → StI cs ∧ cs.length ≤ n ∧ B''.1 41 11 = -1 ∧ (eB e → B''.1 41 14 = exA e cs 0 false (fun _ => 0)) := by
  obtain ⟨X, hX⟩ : ∃ X, X = stR bb (Int32.ofNat q) (Int32.ofNat n) S := ⟨_, rfl⟩
  have row : ∀ k, X.1 41 k = if k = 14 then 0 else if k = 17 then 0 else if k = 12 then 0 else if k = 13 then 121 else if k = 11 then -1 else if k = 10 then 0 else if k = 9 then Int32.ofNat n else if k = 8 then Int32.ofNat q else S.1 41 k := by
    intro k
    rw [hX]
    unfold stR
    simp only [sV_g, true_and]
    rfl
  have oth : ∀ a, a ≠ 41 → X.1 a = S.1 a := by
    intro a ha
    rw [hX]
    unfold stR
    funext k
    simp only [sV_g, ha, false_and, if_false]
    rfl
  have k5 : ∀ a k, X.2.1 a k = if a = 41 ∧ k = 5 then .ref bb else S.2.1 a k := by
    intro a k
    rw [hX]
    exact sK_g S 41 5 (.ref bb) a k
  have k2 : X.2.2 = S.2.2 := by rw [hX]; rfl
  have T : RTx X b n := by
    refine ⟨hn, by rw [row]; rfl, q, by rw [row]; rfl, ?_⟩
    rcases hb with rfl | rfl
    · exact Or.inl ⟨by rw [k5]; rfl, hq rfl, fun k hk => by rw [oth 42 (by decide)]; exact ht k hk⟩
    · exact Or.inr ⟨by rw [k5]; rfl, hq' rfl, fun k hk => by rw [oth 43 (by decide)]; exact ht k hk⟩
  have L' : RLt X e := by
    unfold RLt
    rw [oth 45 (by decide)]
    exact L
  have go : f_X12_goThrough bb (Int32.ofNat q) (Int32.ofNat n) S = zb (f_X12_clause (rS X 0 (-1) (Int32.ofNat 0))) fun _ S8 => f_X12_goThrough_L32 bb (fun (S20 : zS) =>
      if ¬ (S20.1 41 11) = (-1) then some ((), S20) else zb (f_X12_look S20) fun r23 S22 => if r23 = (-1) then some ((), S22) else zb (f_X12_fails S22) fun r27 S26 => some ((), S26)) (Int32.ofNat q) (Int32.ofNat n) zN S8 := by
    rw [rS_self (by rw [row]; rfl) (by rw [row]; rfl) (by rw [row]; rfl), hX]
    rfl
  have K := r_goL bb (Int32.ofNat q) (Int32.ofNat n) 200 0 zN [] X T L' (by rw [row]; rfl) (fun _ => by rw [row]; rfl) (by omega) (by omega) (by unfold zN; omega)
  rw [← go] at K
  have same : ∀ {S' : zS} {i' : Nat} {f' w' : Int32}, frF X S' → sameR S (rS S' i' f' w') ∧ (rS S' i' f' w').1 45 = S.1 45 := by
    intro S' i' f' w' F
    refine ⟨⟨fun a h1 h2 => by rw [rS_b h1, F.2.1 a h1, oth a h1], fun k h1 h2 => ?_, by rw [rS_2, F.1, k2], fun a k h => by rw [rS_2, F.1, k5, if_neg h]⟩, by rw [rS_b (by decide), F.2.1 45 (by decide), oth 45 (by decide)]⟩
    rw [rS_k (by omega), F.2.2 k (by omega) (by omega), row]
    rw [if_neg (by omega), if_neg (by omega), if_neg (by omega), if_neg (by omega), if_neg (by omega), if_neg (by omega), if_neg (by omega), if_neg (by omega)]
  unfold pLaw
  cases hm : pClauses b n 200 0 [] with
  | inl x =>
    obtain ⟨hx, S', i', w', F, ho⟩ := K.1 x hm
    refine ⟨_, ho, (same F).1, (same F).2, fun x' h => ?_, fun i' cs h => by cases h⟩
    cases h
    exact ⟨hx, rS_11⟩
  | inr r =>
    obtain ⟨i1, cs⟩ := r
    obtain ⟨d, S', w', c1, c2, c3, c4, F, ho, c5, c6⟩ := K.2 i1 cs hm
    rw [List.nil_append] at c1
    subst c1
    refine ⟨_, ho, (same F).1, (same F).2, fun x' h => (by cases h), fun i' cs' h => ?_⟩
    injection h with h
    injection h with e1 e2
    subst e1 e2
    refine ⟨c2, by omega, rS_11, fun hb => ?_⟩
    rw [rS_k (by decide)]
    exact c6 (by rw [row]; rfl) hb
theorem heldR_code {B : zS} {i : Nat} {cs : List Int32} (hi : i < 4) (h35 : B.1 41 35 = Int32.ofNat i) (hT : TextR B i cs) : LawR B (codeW cs) := by
  obtain ⟨n, b, i', hn, h44, ht, hp⟩ := hT
  intro B' e1 e2 e3 p s w i0 c a hL
  obtain ⟨l1, l2, l3, l4, l5, l6⟩ := hL
  obtain ⟨X, hX⟩ : ∃ X, X = sV (sV (sV (sV (sV (sV B' 45 112 p) 45 115 s) 45 119 w) 45 105 i0) 45 99 c) 45 97 a := ⟨_, rfl⟩
  have oth : ∀ a', a' ≠ 45 → X.1 a' = B'.1 a' := by
    intro a' ha
    rw [hX]
    funext k
    simp only [sV_g, ha, false_and, if_false]
  have r45 : ∀ k, X.1 45 k = if k = 97 then a else if k = 99 then c else if k = 105 then i0 else if k = 119 then w else if k = 115 then s else if k = 112 then p else B'.1 45 k := by
    intro k
    rw [hX]
    simp only [sV_g, true_and]
  have k2 : X.2 = B'.2 := by rw [hX]; rfl
  have L : RLt X (envL p s w i0 c a) := by
    unfold RLt
    simp only [r45]
    exact ⟨rfl, rfl, rfl, rfl, rfl, rfl⟩
  have eb : eB (envL p s w i0 c a) := by
    intro k hk
    rcases (show k = 0 ∨ k = 1 ∨ k = 2 ∨ k = 3 ∨ k = 4 ∨ k = 5 by omega) with rfl | rfl | rfl | rfl | rfl | rfl
    · exact l1
    · exact l2
    · exact l3
    · exact l4
    · exact l5
    · exact l6
  obtain ⟨B2, g1, g2, g3, -, g4⟩ := r_goThrough (S := X) (bb := 43) (q := 200 * i) (Or.inr rfl) (fun h => (by cases h)) (fun _ => by omega) hn (fun k hk => by rw [oth 43 (by decide), e2]; exact ht k hk) L
  obtain ⟨c1, c2, c3, c4⟩ := g4 i' cs hp
  have x35 : X.1 41 35 = Int32.ofNat i := by rw [oth 41 (by decide), e1, h35]
  unfold f_X12_gripBy
  rw [zlE, e1, h35, if_pos (io_ne1 (by omega)), zlE, zlE, zlE, zlE, zlE, zlE, ← hX, x35, if_pos (io_in (by omega) (by omega)), io_cl (by omega), oth 44 (by decide), e3, h44, ix_m200, g1, zbE, zlE]
  refine ⟨_, B2, rfl, ?_, ?_⟩
  · rw [c4 eb]
    rfl
  · refine ⟨fun b' h1 h2 => ?_, fun k h1 h2 => ?_, ?_, fun b' k h => ?_⟩
    · rw [g2.1 b' h1 h2, oth b' h2]
    · rw [g2.2.1 k h1 h2, oth 41 (by decide)]
    · rw [g2.2.2.1, k2]
    · rw [g2.2.2.2 b' k h, k2]
end OF
