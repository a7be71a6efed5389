/-! fault. -/
section PK
variable {d M nj nh nt : Nat} {A B : zS}
theorem InvD.tapeT (H : InvD d M nj nh nt A B) : ∃ n, CTx A (A.1 2) n ∧ TxB (A.1 2) n ∧ B.1 41 6 = Int32.ofNat n ∧ ∀ k, k < n → byteOk (A.1 2 k) (B.1 42 k) := by
  obtain ⟨u, h1, ⟨n, t1, t2, t3, t4⟩, -⟩ := H
  refine ⟨n, ⟨t2, rfl⟩, ⟨t1, fun k hk => ?_⟩, t3, t4⟩
  obtain ⟨v, v0, v1, v2, -⟩ := t4 k hk
  exact ⟨v, v0, v1, v2⟩
theorem frT.obs {P : Nat → Prop} {A' : zS} (h : frT P A A') (hP : ∀ a, P a → a = 5 ∨ a = 6 ∨ a = 7 ∨ a = 8 ∨ a = 9 ∨ a = 10) (hl : ∃ x, A.2.1 0 18 = .long x) : obsC A A' := by
  refine ⟨fun b hb => h.2.1 b (by omega) (fun q => by have := hP b q; omega), h.2.2 1 (by decide) (by decide), by rw [h.1], fun b k _ => by rw [h.1], by rw [h.1]; exact hl⟩
theorem frR.obs {P : Nat → Prop} {B' : zS} (h : frR P B B') (hP : ∀ a, P a → a = 47 ∨ a = 49 ∨ a = 51 ∨ a = 52 ∨ a = 53) (h52 : ∀ j, j < 64 → B'.1 52 j = B.1 52 j) (h53 : ∀ j, j < 4 → B'.1 53 j = B.1 53 j) (hl : ∃ x, B.2.1 41 51 = .long x) : obsR B B' := by
  refine ⟨fun b hb => h.1 b (by omega) (fun q => by have := hP b q; omega), fun k hk => h.2.1 k (by omega) (by omega) (by omega) (by omega) (by omega), h52, h53, h.2.2.1, by rw [h.2.2.2 41 51 (by decide)]; exact hl⟩
def eOf (S : zS) : Nat → Int32 := fun l => if l = 0 then S.1 45 112 else if l = 1 then S.1 45 115 else if l = 2 then S.1 45 119 else if l = 3 then S.1 45 105 else if l = 4 then S.1 45 99 else S.1 45 97
theorem eOf_L (S : zS) : RLt S (eOf S) := ⟨rfl, rfl, rfl, rfl, rfl, rfl⟩
/-- a law's text read on both sides -/
theorem lawT (H : InvD 0 M nj nh nt A B) : ∃ n A' B' r, TxB (A.1 2) n ∧ A.1 1 1 = Int32.ofNat n ∧ B.1 41 6 = Int32.ofNat n ∧ (∀ k, k < n → byteOk (A.1 2 k) (B.1 42 k)) ∧ f_X5_firstWrong A = some (r, A') ∧ f_X12_goThrough 42 0 (B.1 41 6) B = some ((), B') ∧ B'.1 41 11 = r ∧ obsC A A' ∧ obsR B B' ∧ InvD 0 M nj nh nt A' B' ∧ (r = -1 → ∃ i' cs, pLaw (A.1 2) n = .inr (i', cs) ∧ StI cs ∧ cs.length ≤ n ∧ A'.1 7 2 = Int32.ofNat cs.length ∧ ∀ (k : Nat) (h : k < cs.length), A'.1 8 k = cs[k]) := by
  obtain ⟨n, T, TB, h6, ht⟩ := H.tapeT
  have n2 := TB.1
  obtain ⟨A', c1, c2, c3⟩ := c_lawFirst T TB
  obtain ⟨B', r1, r2, -, r3, r4⟩ := r_goThrough (S := B) (bb := 42) (q := 0) (Or.inl rfl) (fun _ => by omega) (fun h => by cases h) n2 (fun k hk => by rw [Nat.zero_add]; exact ht k hk) (eOf_L B)
  have oA := c2.obs (fun a ha => by omega) H.longC
  have oB := obsR_same r2 H.longR
  have e11 : B'.1 41 11 = resL (pLaw (A.1 2) n) := by
    cases hm : pLaw (A.1 2) n with
    | inl x => exact (r3 x hm).2
    | inr q => exact (r4 q.1 q.2 hm).2.2.1
  refine ⟨n, A', B', _, TB, T.1, h6, ht, c1, by rw [h6]; exact r1, e11, oA, oB, H.obs oA oB, fun hr => ?_⟩
  cases hm : pLaw (A.1 2) n with
  | inl x =>
    rw [hm] at hr
    have := (r3 x hm).1
    exact absurd hr (io_ne1 (by omega))
  | inr q =>
    obtain ⟨i', cs⟩ := q
    obtain ⟨q1, q2, -⟩ := r4 i' cs hm
    exact ⟨i', cs, rfl, q1, q2, c3 i' cs hm⟩
/-- a plan's -/
theorem planT (H : InvD 0 M nj nh nt A B) : ∃ A' B' r, f_X6_firstWrong A = some (r, A') ∧ f_X12_readPlan B = some ((), B') ∧ B'.1 41 11 = r ∧ obsC A A' ∧ obsR B B' ∧ InvD 0 M nj nh nt A' B' ∧ (r = -1 → ∃ cs : List Int32, 1 ≤ cs.length ∧ cs.length ≤ 16 ∧ (∀ x ∈ cs, stepOk x) ∧ A'.1 9 2 = Int32.ofNat cs.length ∧ (∀ (k : Nat) (h : k < cs.length), A'.1 10 k = cs[k]) ∧ B'.1 53 4 = Int32.ofNat cs.length ∧ ∀ (k : Nat) (h : k < cs.length), B'.1 52 (64 + k) = cs[k]) := by
  obtain ⟨n, T, TB, h6, ht⟩ := H.tapeT
  have n2 := TB.1
  obtain ⟨A', c1, c2, c3⟩ := c_planFirst T TB
  obtain ⟨B', r1, r2, r3, r4, r5, r6⟩ := r_planAll n2 h6 ht
  have oA := c2.obs (fun a ha => by unfold P9 at ha; omega) H.longC
  have oB := r2.obs (fun a ha => by unfold P52 at ha; omega) r3 r4 H.longR
  refine ⟨A', B', _, c1, r1, r5, oA, oB, H.obs oA oB, fun hr => ?_⟩
  cases hm : pPlan (A.1 2) n with
  | inl x =>
    have le : x ≤ n := by
      have : ∀ (k i : Nat) (c : List Int32) (x : Nat), i ≤ n → pSteps (A.1 2) n k i c = .inl x → x ≤ n := by
        intro k
        induction k with
        | zero => intro i c x hi h; cases h; exact hi
        | succ k ih =>
          intro i c x hi h
          rw [pSteps] at h
          cases hs : pStep (A.1 2) n i with
          | inl y =>
            rw [hs, pB_l] at h
            cases h
            exact ((c_step T TB hi).1 _ hs).1
          | inr q =>
            obtain ⟨i1, d⟩ := q
            obtain ⟨g1, g2, -⟩ := pStep_g TB hi hs
            have t2 := sk_le (b := A.1 2) g2
            rw [hs, pB_r] at h
            split at h
            · next q3 =>
              have lt := pkn_lt q3 (by decide)
              split at h
              · cases h; exact t2
              · exact ih _ _ _ (by omega) h
            · split at h
              · cases h; exact t2
              · cases h
      exact this 16 0 [] x (by omega) hm
    rw [hm] at hr
    exact absurd hr (io_ne1 (by omega))
  | inr q =>
    obtain ⟨i', cs⟩ := q
    obtain ⟨q1, q2, q3⟩ := pPlan_g TB hm
    obtain ⟨q4, q5⟩ := c3 i' cs hm
    obtain ⟨q6, q7⟩ := r6 i' cs hm
    exact ⟨cs, q1, q2, q3, q4, q5, q6, q7⟩
theorem kitT (H : InvD 0 M nj nh nt A B) : ∃ A' B' r, f_X4_firstWrong A = some (r, A') ∧ f_X12_readKitchen B = some ((), B') ∧ B'.1 41 11 = r ∧ obsC A A' ∧ obsR B B' ∧ InvD 0 M nj nh nt A' B' ∧ (r = -1 → ∃ nj nh nt, KD nj nh nt A' B' ∧ 0 < nj ∧ 0 < nh) := by
  obtain ⟨n, T, TB, h6, ht⟩ := H.tapeT
  obtain ⟨r, A', B', c1, c2, c3, c4, c5, c6, c7⟩ := k_kit TB T h6 ht
  have oA := c4.obs (fun a ha => by unfold P5 at ha; omega) H.longC
  have oB := c5.obs (fun a ha => by omega) (fun j _ => by rw [c5.1 52 (by decide) (by decide)]) (fun j _ => by rw [c5.1 53 (by decide) (by decide)]) H.longR
  exact ⟨A', B', r, c1, c2, c3, oA, oB, H.obs oA oB, c7⟩
theorem op_fault (H : InvD 0 M nj nh nt A B) (v : Int32) : Sim M (f_X11_fault v A) (f_X12_fault v B) := by
  have H0 := H.thr 0
  unfold f_X11_fault f_X12_fault
  rw [zlE]
  generalize sV B 41 0 0 = B0 at H0 ⊢
  have e0 : (0 : Int64).toInt = 0 := by decide
  have e2 : (2 : Int64).toInt = 2 := by decide
  rw [r_isIn, zbE, e0, e2]
  by_cases hv : v.toInt < 0 ∨ 2 < v.toInt
  · rw [if_pos hv, if_neg (show ¬ (0 ≤ v.toInt ∧ v.toInt ≤ 2) by omega), if_neg (nn rfl)]
    exact Sim.no H0 _
  · rw [if_neg hv, if_pos (show 0 ≤ v.toInt ∧ v.toInt ≤ 2 by omega), if_pos (show ¬ (1 : Int32) = 0 by decide)]
    have cv : v = 0 ∨ v = 1 ∨ v = 2 := by
      rcases (show v.toInt = 0 ∨ v.toInt = 1 ∨ v.toInt = 2 by omega) with q | q | q
      · exact Or.inl (ti_inj (by rw [q]; decide))
      · exact Or.inr (Or.inl (ti_inj (by rw [q]; decide)))
      · exact Or.inr (Or.inr (ti_inj (by rw [q]; decide)))
    rcases cv with rfl | rfl | rfl
    · obtain ⟨A', B', r, h1, h2, h3, -, -, h6, -⟩ := kitT H0
      rw [if_pos rfl, h1, zbE]
      simp only [zlE]
      rw [if_neg (nn trivial), h2, zbE, if_pos (show ¬ (0 : Int32) = 1 by decide), if_pos (show ¬ (0 : Int32) = 2 by decide), h3]
      exact Sim.no h6 _
    · obtain ⟨n, A', B', r, -, -, -, -, h1, h2, h3, -, -, h6, -⟩ := lawT H0
      rw [if_neg (show ¬ (1 : Int32) = 0 by decide), if_pos rfl, h1, zbE]
      simp only [zlE]
      rw [if_pos (show ¬ (1 : Int32) = 0 by decide), if_neg (nn trivial), h2, zbE, if_pos (show ¬ (1 : Int32) = 2 by decide), h3]
      exact Sim.no h6 _
    · obtain ⟨A', B', r, h1, h2, h3, -, -, h6, -⟩ := planT H0
      rw [if_neg (show ¬ (2 : Int32) = 0 by decide), if_neg (show ¬ (2 : Int32) = 1 by decide), if_pos rfl, h1, zbE]
      simp only [zlE]
      rw [if_pos (show ¬ (2 : Int32) = 0 by decide), if_pos (show ¬ (2 : Int32) = 1 by decide), if_neg (nn trivial), h2, zbE, h3]
      exact Sim.no h6 _
end PK
