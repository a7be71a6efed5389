/-! An act is put by, and noted; who is there. -/
section MJ
theorem IRow.cg {jT : Nat → Int32} {nj M : Nat} {r q r' q' : Nat → Int32} (H : IRow jT nj M r q) (h1 : ∀ k, k < 66 → r' k = r k) (h2 : ∀ k, k < 66 → q' k = q k) : IRow jT nj M r' q' := by
  obtain ⟨⟨a1, a2, a3, a4⟩, ⟨tb, b1, b2, b3⟩, c1, c2, c3⟩ := H
  refine ⟨⟨fun k hk => ?_, fun j h hj hh => ?_, ?_, ?_⟩, ⟨tb, b1, b2, ?_⟩, fun j hj => ?_, fun h hh => ?_, ?_⟩
  · rw [h1 k (by omega), h2 k (by omega)]; exact a1 k hk
  · rw [h1 _ (by unfold loC; omega), h2 _ (by unfold loR; omega)]; exact a2 j h hj hh
  · rw [h1 _ (by omega), h2 _ (by omega)]; exact a3
  · rw [h1 _ (by omega), h2 _ (by omega)]; exact a4
  · rw [h1 _ (by omega)]; exact b3
  · rw [h1 _ (by omega), h1 _ (by omega), h1 _ (by omega), h1 _ (by omega), h1 _ (by omega), h1 _ (by omega)]; exact c1 j hj
  · rw [h1 _ (by omega), h1 _ (by omega)]; exact c2 h hh
  · rw [h1 _ (by omega)]; exact c3
section K
variable {d M nj nh nt : Nat} {A B : zS}
theorem keep_ok (H : InvD 0 M nj nh nt A B) : ∃ A1 B1, f_X1_keep_17 A = some ((), A1) ∧ f_X12_remember B = some ((), B1) ∧ InvD 1 M nj nh nt A1 B1 ∧ (A1.2 = A.2 ∧ ∀ b, b ≠ 21 → b ≠ 22 → A1.1 b = A.1 b) ∧ (B1.2 = B.2 ∧ (∀ b, b ≠ 41 → b ≠ 56 → B1.1 b = B.1 b) ∧ ∀ k, k ≠ 39 → B1.1 41 k = B.1 41 k) := by
  obtain ⟨u, h1, h2, ⟨W, w1, w2⟩, h4, h5, h6, ⟨r, x1, x2, x3, x4, x5, x6⟩, ⟨r2, l, y1, y2, y3, y4, y5, y6, y7⟩, h9, h10, h11, h12, h13, h14⟩ := H
  obtain ⟨q, e2, q1, q2⟩ := r_remember x5 x2
  refine ⟨_, _, c_keep x3 x1 x4 x2, e2, ?_, ⟨rfl, fun b b1 b2 => ?_⟩, ⟨rfl, fun b b1 b2 => ?_, fun k hk => ?_⟩⟩
  · have k21 : ∀ k, k ≠ 5 → k ≠ 6 → (sR (sR A 22 (cpy (A.1 18) (A.1 22) 0 (66 * r) 66)) 21 (ru (ru (A.1 21) 5 (Int32.ofNat ((r + 1) % 40))) 6 (Int32.ofNat (if u + 1 < 40 then u + 1 else 40)))).1 21 k = A.1 21 k := fun k k1 k2 => by
      rw [sR_at, ru_ne k2, ru_ne k1]
    have k41 : ∀ k, k ≠ 39 → (sR (sR B 56 q) 41 (ru (B.1 41) 39 (Int32.ofNat (if u + 1 < 40 then u + 1 else 40)))).1 41 k = B.1 41 k := fun k k1 => by
      rw [sR_at, ru_ne k1]
    refine ⟨if u + 1 < 40 then u + 1 else 40, h1, h2, ⟨W, w1.of rfl rfl (fun b hb => by rw [sR_ne _ _ (by omega), sR_ne _ _ (by omega)]), w2.of rfl rfl rfl⟩, h4.of rfl rfl rfl (fun b hb => by rw [sR_ne _ _ (by omega), sR_ne _ _ (by omega)]) (fun _ => rfl) rfl rfl rfl rfl, h5.of rfl rfl (fun b hb => by rw [sR_ne _ _ (by omega), sR_ne _ _ (by omega)]) (fun _ => rfl) rfl (fun _ _ => rfl) (fun _ _ => rfl), h6, ?_, ?_, h9, ?_, h11, h12, h13, h14⟩
    · refine ⟨(r + 1) % 40, by omega, by split <;> omega, ?_, ?_, ?_, fun i hi => ?_⟩
      · rw [sR_at, ru_ne (by decide), ru_at]
      · rw [sR_at, ru_at]
      · rw [sR_at, ru_at]
      · have hu' : (if u + 1 < 40 then u + 1 else 40) = (if u < 40 then u else 39) + 1 := by split <;> split <;> omega
        rw [hu'] at hi ⊢
        by_cases i0 : i = 0
        · subst i0
          refine h6.cg (fun k hk => ?_) (fun k hk => ?_)
          · show cpy (A.1 18) (A.1 22) 0 (66 * r) 66 (66 * (((r + 1) % 40 + 39 - 0) % 40) + k) = _
            rw [show ((r + 1) % 40 + 39 - 0) % 40 = r by omega, cpy_in hk, Nat.zero_add]
          · show q (66 * ((if u < 40 then u else 39) + 1 - 1 - 0) + k) = _
            rw [show (if u < 40 then u else 39) + 1 - 1 - 0 = (if u < 40 then u else 39) by omega]
            exact q1 k hk
        · have hi2 : i - 1 < u := by split at hi <;> omega
          refine (x6 (i - 1) hi2).cg (fun k hk => ?_) (fun k hk => ?_)
          · show cpy (A.1 18) (A.1 22) 0 (66 * r) 66 (66 * (((r + 1) % 40 + 39 - i) % 40) + k) = _
            have hp : ((r + 1) % 40 + 39 - i) % 40 = (r + 39 - (i - 1)) % 40 := by split at hi <;> omega
            rw [hp, cpy_out (by split at hi <;> omega)]
          · show q (66 * ((if u < 40 then u else 39) + 1 - 1 - i) + k) = _
            have hz : (if u < 40 then u else 39) + 1 - 1 - i + (if u < 40 then 0 else 1) = u - 1 - (i - 1) := by
              by_cases hu : u < 40
              · rw [if_pos hu] at hi
                rw [if_pos hu, if_pos hu]
                omega
              · rw [if_neg hu] at hi
                rw [if_neg hu, if_neg hu]
                omega
            rw [q2 _ k hk (by omega), hz]
    · refine ⟨r2, l, y1, y2, by split <;> omega, ?_, ?_, ?_, y7⟩
      · rw [k21 _ (by decide) (by decide)]; exact y4
      · rw [k21 _ (by decide) (by decide)]; exact y5
      · rw [k41 _ (by decide)]; exact y6
    · rw [k21 _ (by decide) (by decide), k41 _ (by decide)]
      exact h10
  · rw [sR_ne _ _ b1, sR_ne _ _ b2]
  · rw [sR_ne _ _ b1, sR_ne _ _ b2]
  · rw [sR_at, ru_ne hk]
theorem note_ok (H : InvD 1 M nj nh nt A B) (c : Int32) {mn : Int32} (hm : mn = A.1 18 65) : ∃ A1 B1, f_X1_note c mn A = some ((), A1) ∧ f_X12_writes c B = some ((), B1) ∧ InvD 0 M nj nh nt A1 B1 ∧ (A1.2 = A.2 ∧ ∀ b, b ≠ 21 → b ≠ 23 → b ≠ 24 → A1.1 b = A.1 b) ∧ (B1.2 = B.2 ∧ (∀ b, b ≠ 41 → b ≠ 57 → b ≠ 58 → B1.1 b = B.1 b) ∧ ∀ k, k ≠ 40 → B1.1 41 k = B.1 41 k) := by
  obtain ⟨u, h1, h2, ⟨W, w1, w2⟩, h4, h5, h6, ⟨r2, x1, x2, x3, x4, x5, x6⟩, ⟨r, l, y1, y2, y3, y4, y5, y6, y7⟩, h9, h10, h11, h12, h13, h14⟩ := H
  obtain ⟨q, q', e2, p1, p2, p3⟩ := r_writes y6 y2 c
  refine ⟨_, _, c_note y4 y1 y5 y2 c mn, e2, ?_, ⟨rfl, fun b b1 b2 b3 => ?_⟩, ⟨rfl, fun b b1 b2 b3 => ?_, fun k hk => ?_⟩⟩
  · have k21 : ∀ k, k ≠ 7 → k ≠ 8 → (sR (sR (sR A 23 (ru (A.1 23) r c)) 24 (ru (A.1 24) r mn)) 21 (ru (ru (A.1 21) 7 (Int32.ofNat ((r + 1) % 60))) 8 (Int32.ofNat (if l + 1 < 60 then l + 1 else 60)))).1 21 k = A.1 21 k := fun k k1 k2 => by
      rw [sR_at, ru_ne k2, ru_ne k1]
    have k41 : ∀ k, k ≠ 40 → (sR (sR (sR B 57 q) 58 q') 41 (ru (B.1 41) 40 (Int32.ofNat (if l + 1 < 60 then l + 1 else 60)))).1 41 k = B.1 41 k := fun k k1 => by
      rw [sR_at, ru_ne k1]
    refine ⟨u, h1, h2, ⟨W, w1.of rfl rfl (fun b hb => by rw [sR_ne _ _ (by omega), sR_ne _ _ (by omega), sR_ne _ _ (by omega)]), w2.of rfl rfl rfl⟩, h4.of rfl rfl rfl (fun b hb => by rw [sR_ne _ _ (by omega), sR_ne _ _ (by omega), sR_ne _ _ (by omega)]) (fun _ => rfl) rfl rfl rfl rfl, h5.of rfl rfl (fun b hb => by rw [sR_ne _ _ (by omega), sR_ne _ _ (by omega), sR_ne _ _ (by omega)]) (fun _ => rfl) rfl (fun _ _ => rfl) (fun _ _ => rfl), h6, ?_, ?_, h9, ?_, h11, h12, h13, h14⟩
    · refine ⟨r2, x1, x2, ?_, ?_, ?_, x6⟩
      · rw [k21 _ (by decide) (by decide)]; exact x3
      · rw [k21 _ (by decide) (by decide)]; exact x4
      · rw [k41 _ (by decide)]; exact x5
    · refine ⟨(r + 1) % 60, if l + 1 < 60 then l + 1 else 60, by omega, by split <;> omega, by split <;> omega, ?_, ?_, ?_, fun i hi => ?_⟩
      · rw [sR_at, ru_ne (by decide), ru_at]
      · rw [sR_at, ru_at]
      · rw [sR_at, ru_at]
      · have hl' : (if l + 1 < 60 then l + 1 else 60) = (if l < 60 then l else 59) + 1 := by split <;> split <;> omega
        rw [hl'] at hi ⊢
        show ru (A.1 23) r c _ = q _ ∧ ru (A.1 24) r mn _ = q' _
        by_cases i0 : i = 0
        · subst i0
          rw [show ((r + 1) % 60 + 59 - 0) % 60 = r by omega, show (if l < 60 then l else 59) + 1 - 1 - 0 = (if l < 60 then l else 59) by omega, ru_at, ru_at, p1, p2, hm]
          exact ⟨rfl, h6.1.2.2.2⟩
        · have hi2 : i - 1 < l := by split at hi <;> omega
          have hp : ((r + 1) % 60 + 59 - i) % 60 = (r + 59 - (i - 1)) % 60 := by split at hi <;> omega
          have hne : (r + 59 - (i - 1)) % 60 ≠ r := by split at hi <;> omega
          have hq := p3 ((if l < 60 then l else 59) + 1 - 1 - i) (by omega)
          have hz : (if l < 60 then l else 59) + 1 - 1 - i + (if l < 60 then 0 else 1) = l - 1 - (i - 1) := by split at hi <;> split <;> omega
          rw [hp, ru_ne hne, ru_ne hne, hq.1, hq.2, hz]
          exact y7 (i - 1) hi2
    · rw [k21 _ (by decide) (by decide), k41 _ (by decide)]
      exact h10
  · rw [sR_ne _ _ b1, sR_ne _ _ b3, sR_ne _ _ b2]
  · rw [sR_ne _ _ b1, sR_ne _ _ b3, sR_ne _ _ b2]
  · rw [sR_at, ru_ne hk]
end K
/-! ## who is there -/
theorem lg_n (a b : Int64) : lg_cmp a b < 0 ↔ a.toInt < b.toInt := by
  unfold lg_cmp
  by_cases h1 : a > b
  · rw [if_pos h1]
    have : b.toInt < a.toInt := Int64.lt_iff_toInt_lt.mp h1
    exact ⟨fun h => absurd h (by decide), fun h => by omega⟩
  · rw [if_neg h1]
    by_cases h2 : a = b
    · rw [if_pos h2, h2]
      exact ⟨fun h => absurd h (by decide), fun h => by omega⟩
    · rw [if_neg h2]
      refine ⟨fun _ => ?_, fun _ => by decide⟩
      have h3 : ¬ b.toInt < a.toInt := fun q => h1 (Int64.lt_iff_toInt_lt.mpr q)
      have h4 : a.toInt ≠ b.toInt := fun q => h2 (Int64.toInt_inj.mp q)
      omega
theorem lg_p (a b : Int64) : 0 < lg_cmp a b ↔ b.toInt < a.toInt := by
  unfold lg_cmp
  by_cases h1 : a > b
  · rw [if_pos h1]
    exact ⟨fun _ => Int64.lt_iff_toInt_lt.mp h1, fun _ => by decide⟩
  · rw [if_neg h1]
    have h3 : ¬ b.toInt < a.toInt := fun q => h1 (Int64.lt_iff_toInt_lt.mpr q)
    refine ⟨fun h => ?_, fun h => absurd h h3⟩
    split at h
    · exact absurd h (by decide)
    · exact absurd h (by decide)
theorem r_isIn (v : Int32) (b c : Int64) (S : zS) : f_X12_isIn v.toInt64 b c S = some (if b.toInt ≤ v.toInt ∧ v.toInt ≤ c.toInt then 1 else 0, S) := by
  unfold f_X12_isIn
  have e : v.toInt64.toInt = v.toInt := Int32.toInt_toInt64 v
  by_cases h1 : v.toInt < b.toInt
  · rw [if_pos ((lg_n _ _).mpr (by rw [e]; exact h1)), if_neg (by omega)]
  · rw [if_neg (fun q => h1 (by have := (lg_n _ _).mp q; rwa [e] at this))]
    by_cases h2 : c.toInt < v.toInt
    · rw [if_pos ((lg_p _ _).mpr (by rw [e]; exact h2)), if_neg (by omega)]
    · rw [if_neg (fun q => h2 (by have := (lg_p _ _).mp q; rwa [e] at this)), if_pos (by omega)]
/-- a number is an index below n, or not -/
theorem idx (v : Int32) (n : Nat) (hn : n < 1000000) : (∃ a, a < n ∧ v = Int32.ofNat a) ∨ (v.toInt < 0 ∨ (n : Int) ≤ v.toInt) := by
  by_cases h : v.toInt < 0 ∨ (n : Int) ≤ v.toInt
  · exact Or.inr h
  · refine Or.inl ⟨v.toInt.toNat, by omega, ti_ofn (by omega)⟩
theorem i_lt0 {v : Int32} : v < 0 ↔ v.toInt < 0 := by rw [Int32.lt_iff_toInt_lt, ti_0]
theorem i_le0 {v : Int32} {n : Nat} (hn : n < 1000000) : Int32.ofNat n ≤ v ↔ (n : Int) ≤ v.toInt := by rw [Int32.le_iff_toInt_le, ti_nat (by omega)]
section W
variable {A B : zS} {n : Nat}
theorem isHand2 (hA : A.1 12 1 = Int32.ofNat n) (hB : B.1 41 25 = Int32.ofNat n) (hn : n < 1000000) (v : Int32) : (∃ a, a < n ∧ v = Int32.ofNat a ∧ f_X11_isHand v A = some (1, A) ∧ f_X12_isHand v B = some (1, B)) ∨ (f_X11_isHand v A = some (0, A) ∧ f_X12_isHand v B = some (0, B)) := by
  unfold f_X11_isHand f_X12_isHand
  rw [hA, hB]
  rcases idx v n hn with ⟨a, ha, rfl⟩ | h
  · refine Or.inl ⟨a, ha, rfl, ?_⟩
    have h0 : ¬ Int32.ofNat a < 0 := fun q => by rw [i_lt0, ti_nat (by omega)] at q; omega
    have h1 : ¬ Int32.ofNat n ≤ Int32.ofNat a := fun q => by rw [io_le (by omega) (by omega)] at q; omega
    rw [if_neg h0, if_neg h1, if_neg h0, if_neg h1]
    exact ⟨rfl, rfl⟩
  · refine Or.inr ?_
    by_cases h0 : v < 0
    · rw [if_pos h0, if_pos h0]; exact ⟨rfl, rfl⟩
    · have h1 : Int32.ofNat n ≤ v := (i_le0 hn).mpr (by rw [i_lt0] at h0; omega)
      rw [if_neg h0, if_pos h1, if_neg h0, if_pos h1]; exact ⟨rfl, rfl⟩
theorem isJar2 (hA : A.1 12 0 = Int32.ofNat n) (hB : B.1 41 24 = Int32.ofNat n) (hn : n < 1000000) (v : Int32) : (∃ a, a < n ∧ v = Int32.ofNat a ∧ f_X11_isJar v A = some (1, A) ∧ f_X12_isJar v B = some (1, B)) ∨ (f_X11_isJar v A = some (0, A) ∧ f_X12_isJar v B = some (0, B)) := by
  unfold f_X11_isJar f_X12_isJar
  rw [hA, hB]
  rcases idx v n hn with ⟨a, ha, rfl⟩ | h
  · refine Or.inl ⟨a, ha, rfl, ?_⟩
    have h0 : ¬ Int32.ofNat a < 0 := fun q => by rw [i_lt0, ti_nat (by omega)] at q; omega
    have h1 : ¬ Int32.ofNat n ≤ Int32.ofNat a := fun q => by rw [io_le (by omega) (by omega)] at q; omega
    rw [if_neg h0, if_neg h1, if_neg h0, if_neg h1]
    exact ⟨rfl, rfl⟩
  · refine Or.inr ?_
    by_cases h0 : v < 0
    · rw [if_pos h0, if_pos h0]; exact ⟨rfl, rfl⟩
    · have h1 : Int32.ofNat n ≤ v := (i_le0 hn).mpr (by rw [i_lt0] at h0; omega)
      rw [if_neg h0, if_pos h1, if_neg h0, if_pos h1]; exact ⟨rfl, rfl⟩
theorem isTool2 (hA : A.1 12 2 = Int32.ofNat n) (hB : B.1 41 26 = Int32.ofNat n) (hn : n < 1000000) (v : Int32) : (∃ t : Option Nat, (∀ k, t = some k → k < n) ∧ v = toolV t ∧ f_X11_isTool v A = some (1, A) ∧ f_X12_isTool v B = some (1, B)) ∨ (f_X11_isTool v A = some (0, A) ∧ f_X12_isTool v B = some (0, B)) := by
  have e1 : (-1 : Int64).toInt = -1 := by decide
  have e2 : ((Int32.ofNat n - 1).toInt64).toInt = (n : Int) - 1 := by
    rw [Int32.toInt_toInt64, ti_sub (by rw [ti_nat (by omega), ti_1]; omega), ti_nat (by omega), ti_1]
  have l1 : ∀ w : Int32, w < -1 ↔ w.toInt < -1 := fun w => by rw [Int32.lt_iff_toInt_lt, ti_n1]
  unfold f_X11_isTool f_X12_isTool
  rw [hA, hB, r_isIn, e1, e2, zbE]
  by_cases h : -1 ≤ v.toInt ∧ v.toInt ≤ (n : Int) - 1
  · rw [if_pos h, if_neg (fun q => by rw [l1] at q; omega), if_neg (fun q => by rw [i_le0 hn] at q; omega), if_pos (Or.inr rfl)]
    by_cases hm : v.toInt = -1
    · exact Or.inl ⟨none, fun k hk => (by cases hk), ti_inj (by rw [hm]; exact ti_n1.symm), rfl, rfl⟩
    · refine Or.inl ⟨some v.toInt.toNat, fun k hk => (by cases hk; omega), ti_ofn (by omega), rfl, rfl⟩
  · rw [if_neg h, if_pos (Or.inl rfl)]
    refine Or.inr ⟨?_, rfl⟩
    by_cases h0 : v < -1
    · rw [if_pos h0]
    · rw [if_neg h0, if_pos ((i_le0 hn).mpr (by rw [l1] at h0; omega))]
end W
end MJ
