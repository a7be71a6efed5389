/-! text: both sides. -/
section QG
variable {M nj nh nt : Nat} {A B : zS}
theorem bd_of {v lo hg : Int32} (h1 : ¬ v < lo) (h2 : ¬ hg < v) {a b : Int} (ha : a ≤ lo.toInt) (hb : hg.toInt ≤ b) : bd v a b := by
  have x1 : ¬ v.toInt < lo.toInt := fun q => h1 (Int32.lt_iff_toInt_lt.mpr q)
  have x2 : ¬ hg.toInt < v.toInt := fun q => h2 (Int32.lt_iff_toInt_lt.mpr q)
  exact ⟨by omega, by omega⟩
theorem told_B {A1 B1 : zS} (K : KD nj nh nt A1 B1) (p0 : 0 < nj) (p1 : 0 < nh) {jT hT tT : Nat → Int32} (hj : ∀ k, k < 24 → jT k = B1.1 47 k) (hh : ∀ k, k < 30 → hT k = B1.1 49 k) (ht : ∀ k, k < 8 → tT k = B1.1 51 k) : ToldB nj nh nt jT hT tT := by
  obtain ⟨⟨n4, n6, n44⟩, -, -, k0, k1, k2⟩ := K
  refine ⟨n4, n6, n44, fun q => by omega, fun _ => p1, fun j hj' => ⟨?_, ?_, ?_, ?_, ?_, ?_⟩, fun h hh' => ⟨?_, ?_, ?_, ?_, ?_⟩, fun t ht' => ⟨?_, ?_⟩⟩
  · rw [hj _ (by omega)]; have := k0 j hj' 0 (by decide); exact bd_of this.2.1 this.2.2 (by decide) (by decide)
  · rw [hj _ (by omega)]; have := k0 j hj' 1 (by decide); exact bd_of this.2.1 this.2.2 (by decide) (by decide)
  · rw [hj _ (by omega)]; have := k0 j hj' 2 (by decide); exact bd_of this.2.1 this.2.2 (by decide) (by decide)
  · rw [hj _ (by omega)]
    have := k0 j hj' 3 (by decide)
    have b : bd (B1.1 47 (6 * j + 3)) 0 1 := bd_of this.2.1 this.2.2 (by decide) (by decide)
    unfold bd at b
    rcases (show (B1.1 47 (6 * j + 3)).toInt = 0 ∨ (B1.1 47 (6 * j + 3)).toInt = 1 by omega) with q | q
    · exact Or.inl (ti_inj (by rw [q]; decide))
    · exact Or.inr (ti_inj (by rw [q]; decide))
  · rw [hj _ (by omega)]; have := k0 j hj' 4 (by decide); exact bd_of this.2.1 this.2.2 (by decide) (by decide)
  · rw [hj _ (by omega)]; have := k0 j hj' 5 (by decide); exact bd_of this.2.1 this.2.2 (by decide) (by decide)
  · rw [hh _ (by omega)]; have := k1 h hh' 0 (by decide); exact bd_of this.2.1 this.2.2 (by decide) (by decide)
  · rw [hh _ (by omega)]; have := k1 h hh' 1 (by decide); exact bd_of this.2.1 this.2.2 (by decide) (by decide)
  · rw [hh _ (by omega)]; have := k1 h hh' 2 (by decide); exact bd_of this.2.1 this.2.2 (by decide) (by decide)
  · rw [hh _ (by omega)]; have := k1 h hh' 3 (by decide); exact bd_of this.2.1 this.2.2 (by decide) (by decide)
  · rw [hh _ (by omega)]; have := k1 h hh' 4 (by decide); exact bd_of this.2.1 this.2.2 (by decide) (by decide)
  · rw [ht _ (by omega)]; have := k2 t ht' 0 (by decide); exact bd_of this.2.1 this.2.2 (by decide) (by decide)
  · rw [ht _ (by omega)]; have := k2 t ht' 1 (by decide); exact bd_of this.2.1 this.2.2 (by decide) (by decide)
/-- a row as told at first, in bounds -/
theorem told_row {jT hT tT r : Nat → Int32} (T : ToldB nj nh nt jT hT tT) (p0 : 0 < nj) (hr : ∀ k, k < 66 → r k = tldR jT hT nj nh k) : RowOk jT nj 0 r := by
  obtain ⟨n4, n6, n44, -, -, t1, t2, -⟩ := T
  have z : bd (0 : Int32) 0 99 := ⟨by decide, by decide⟩
  have z9 : bd (0 : Int32) 0 9 := ⟨by decide, by decide⟩
  have vj : ∀ j c, j < nj → c < 3 → r (7 * j + c) = jT (6 * j + c) := fun j c hj hc => by
    rw [hr _ (by omega)]
    unfold tldR
    rw [if_pos (by omega), show 6 * ((7 * j + c) / 7) + (7 * j + c) % 7 = 6 * j + c by omega]
  have v0 : ∀ j c, j < 4 → c < 7 → (nj ≤ j ∨ 3 ≤ c) → r (7 * j + c) = 0 := fun j c hj hc h => by
    rw [hr _ (by omega)]
    unfold tldR
    rw [if_neg (by omega), if_neg (by omega)]
  refine ⟨⟨0, by decide, Or.inr p0, ?_⟩, fun j hj => ?_, fun h hh => ?_, ?_⟩
  · rw [hr 64 (by decide)]
    unfold tldR
    rw [if_neg (by omega), if_neg (by omega)]
    rfl
  · have e0 : r (7 * j) = r (7 * j + 0) := rfl
    rw [v0 j 3 hj (by decide) (Or.inr (by decide)), v0 j 5 hj (by decide) (Or.inr (by decide)), v0 j 6 hj (by decide) (Or.inr (by decide)), e0]
    by_cases q : j < nj
    · rw [vj j 0 q (by decide), vj j 1 q (by decide), vj j 2 q (by decide)]
      obtain ⟨x1, x2, x3, -, -, x6⟩ := t1 j q
      exact ⟨x1, x2, x3, ⟨by decide, by decide⟩, Or.inl rfl, Or.inl rfl, fun _ _ => by rw [ti_0]; exact x6.1⟩
    · rw [v0 j 0 hj (by decide) (Or.inl (by omega)), v0 j 1 hj (by decide) (Or.inl (by omega)), v0 j 2 hj (by decide) (Or.inl (by omega))]
      exact ⟨z, z, z9, ⟨by decide, by decide⟩, Or.inl rfl, Or.inl rfl, fun _ h => absurd h q⟩
  · by_cases q : h < nh
    · have e1 : r (28 + 2 * h) = hT (5 * h) := by
        rw [hr _ (by omega)]
        unfold tldR
        rw [if_neg (by omega), if_pos (by omega), show 5 * ((28 + 2 * h - 28) / 2) + 2 * ((28 + 2 * h - 28) % 2) = 5 * h by omega]
      have e2 : r (28 + 2 * h + 1) = hT (5 * h + 2) := by
        rw [hr _ (by omega)]
        unfold tldR
        rw [if_neg (by omega), if_pos (by omega), show 5 * ((28 + 2 * h + 1 - 28) / 2) + 2 * ((28 + 2 * h + 1 - 28) % 2) = 5 * h + 2 by omega]
      rw [e1, e2]
      exact ⟨(t2 h q).1, (t2 h q).2.2.1⟩
    · have e1 : r (28 + 2 * h) = 0 := by
        rw [hr _ (by omega)]
        unfold tldR
        rw [if_neg (by omega), if_neg (by omega)]
      have e2 : r (28 + 2 * h + 1) = 0 := by
        rw [hr _ (by omega)]
        unfold tldR
        rw [if_neg (by omega), if_neg (by omega)]
      rw [e1, e2]
      exact ⟨z, z9⟩
  · rw [hr 65 (by decide)]
    unfold tldR
    rw [if_neg (by omega), if_neg (by omega)]
    exact ⟨by decide, by decide⟩
theorem RowC.up {A' : zS} {a : Nat} {cs : List Int32} (H : RowC A a cs) (h1 : A'.1 a = A.1 a) (h2 : A'.2.2.1 a = A.2.2.1 a) (h3 : A.2.2.2 ≤ A'.2.2.2) : RowC A' a cs := by
  obtain ⟨x1, x2, x3, x4, x5⟩ := H
  exact ⟨x1, by omega, by rw [h2]; exact x3, x4, fun k h => by rw [h1]; exact x5 k h⟩
def nB (B : zS) (k : Nat) : zS := (B.1, B.2.1, B.2.2.1, k)
/-- a kitchen -/
theorem text_kit (H : InvD 0 M nj nh nt A B) {nj' nh' nt' : Nat} (K : KD nj' nh' nt' A B) (p0 : 0 < nj') (p1 : 0 < nh') : ∃ A' B', f_X11_keepKitchen A = some (Int32.ofNat nj', A') ∧ kitE B = some (Int32.ofNat nj', B') ∧ A'.2.2 = A.2.2 ∧ InvD 0 M nj' nh' nt' A' B' := by
  obtain ⟨⟨n4, n6, n44⟩, ⟨a0, a1, a2⟩, ⟨b0, b1, b2⟩, k0, k1, k2⟩ := K
  obtain ⟨A', c1, c2, c3, c4, c5, c6, c7, c8, c9, c10, c11, c12, c13, c14, c15, c16, c17, c18, c19⟩ := c_keepK a0 a1 n4 n6
  obtain ⟨B', d1, d2, d3, d4, d5, d6, d7, d8, d9, d10, d11, d12, d13, d14, d15, d16, d17, d18⟩ := r_kitE b0 b1 b2 p0 n4 n6
  obtain ⟨u, h1, h2, h3, ⟨nl, l0, l1, l2, l3, l4⟩, h5, h6, ⟨r, x1, x2, x3, x4, x5, x6⟩, ⟨r2, l, y1, y2, y3, y4, y5, y6, y7⟩, h9, h10, h11, h12, ⟨x, h13⟩, h14⟩ := H
  have T : ToldB nj' nh' nt' (B'.1 46) (B'.1 48) (B'.1 50) := told_B (A1 := A) (B1 := B) ⟨⟨n4, n6, n44⟩, ⟨a0, a1, a2⟩, ⟨b0, b1, b2⟩, k0, k1, k2⟩ p0 p1 d3 d4 d5
  have ej : ∀ k, k < 6 * nj' → A'.1 13 k = B'.1 46 k := fun k hk => by
    rw [c5 k (by omega), d3 k (by omega)]
    have := (k0 (k / 6) (by omega) (k % 6) (by omega)).1
    rw [show 0 + 6 * (k / 6) + k % 6 = k by omega, show 6 * (k / 6) + k % 6 = k by omega] at this
    exact this
  have eh : ∀ k, k < 5 * nh' → A'.1 13 (24 + k) = B'.1 48 k := fun k hk => by
    rw [c5 _ (by omega), d4 k (by omega)]
    have := (k1 (k / 5) (by omega) (k % 5) (by omega)).1
    rw [show 24 + 5 * (k / 5) + k % 5 = 24 + k by omega, show 5 * (k / 5) + k % 5 = k by omega] at this
    exact this
  have et : ∀ k, k < 2 * nt' → A'.1 13 (54 + k) = B'.1 50 k := fun k hk => by
    rw [c5 _ (by omega), d5 k (by omega)]
    have := (k2 (k / 2) (by omega) (k % 2) (by omega)).1
    rw [show 54 + 2 * (k / 2) + k % 2 = 54 + k by omega, show 2 * (k / 2) + k % 2 = k by omega] at this
    exact this
  have rA : ∀ k, k < 66 → A'.1 18 k = tldR (B'.1 46) (B'.1 48) nj' nh' k := fun k hk => by
    rw [c11 k hk]
    unfold toldV tldR
    by_cases g1 : k < 28 ∧ k % 7 < 3 ∧ k / 7 < nj'
    · rw [if_pos g1, if_pos g1]
      exact ej _ (by omega)
    · rw [if_neg g1, if_neg g1]
      by_cases g2 : 28 ≤ k ∧ k < 40 ∧ (k - 28) / 2 < nh'
      · rw [if_pos g2, if_pos g2]
        exact eh _ (by omega)
      · rw [if_neg g2, if_neg g2]
  have rB : ∀ k, k < 66 → B'.1 54 k = tldR (B'.1 46) (B'.1 48) nj' nh' k := fun k hk => by
    rw [d6 k hk]
    unfold tldR
    by_cases g1 : k < 28 ∧ k % 7 < 3 ∧ k / 7 < nj'
    · rw [if_pos g1, if_pos g1]
      exact (d3 _ (by omega)).symm
    · rw [if_neg g1, if_neg g1]
      by_cases g2 : 28 ≤ k ∧ k < 40 ∧ (k - 28) / 2 < nh'
      · rw [if_pos g2, if_pos g2]
        exact (d4 _ (by omega)).symm
      · rw [if_neg g2, if_neg g2]
  have t0 : ∀ k, 40 ≤ k → tldR (B'.1 46) (B'.1 48) nj' nh' k = 0 := fun k hk => by
    unfold tldR
    rw [if_neg (by omega), if_neg (by omega)]
  have RR : RelRow (A'.1 18) (B'.1 54) := by
    refine ⟨fun k hk => by rw [rA k (by omega), rB k (by omega)], fun j h hj hh => ?_, by rw [rA 64 (by decide), rB 64 (by decide)], by rw [rA 65 (by decide), rB 65 (by decide)]⟩
    unfold loC loR
    rw [rA _ (by omega), rB _ (by omega), t0 _ (by omega), t0 _ (by omega)]
  have R0 := told_row T p0 rA
  refine ⟨A', B', c1, d1, c2, 0, ⟨?_, ?_, ?_, d9, d10, d11, ?_, ej, eh, et, T⟩, ⟨0, by omega, ?_, ?_, fun k hk => by omega⟩, ⟨plainW, Or.inl ⟨?_, rfl⟩, Or.inl ⟨d12, rfl⟩⟩, ⟨nl, l0, ?_, ?_, fun i hi => ?_, Or.inl ⟨c9, d12⟩⟩, ?_, ⟨RR, R0.mono (Nat.zero_le _)⟩, ⟨r, x1, by omega, ?_, c14, d14, fun i hi => by omega⟩, ⟨r2, 0, y1, by omega, by omega, ?_, c15, d15, fun i hi => by omega⟩, ⟨0, by omega, c17, d13, fun i hi => by omega, fun i hi => by omega, ?_⟩, ⟨?_, Or.inl c16⟩, trivial, by rw [c2]; exact h12, ⟨x, by rw [c3, if_neg (by decide)]; exact h13⟩, by rw [d2]; exact h14⟩
  · rw [c4 0 (by decide)]; exact a0
  · rw [c4 1 (by decide)]; exact a1
  · rw [c4 2 (by decide)]; exact a2
  · rw [c10, if_neg (by omega)]
  · exact c6
  · exact d8
  · rw [c3, if_pos ⟨rfl, rfl⟩]
  · rw [c7]; exact l1
  · rw [d17]; exact l2
  · obtain ⟨a, cs, z1, z2, z3, z4⟩ := l3 i hi
    exact ⟨a, cs, by rw [c3, if_neg (fun q => absurd q.1 (by decide))]; exact z1, z2.of (c19 a z2.1) c2, z3, z4.of (d7 43 (by decide) (by decide) (by decide) (by decide) (by decide)) (d7 44 (by decide) (by decide) (by decide) (by decide) (by decide))⟩
  · exact h5.of c8 c2 c19 (fun k => by rw [c3, if_neg (fun q => absurd q.1 (by decide))]) d18 (fun k _ => by rw [d7 52 (by decide) (by decide) (by decide) (by decide) (by decide)]) (fun k _ => by rw [d7 53 (by decide) (by decide) (by decide) (by decide) (by decide)])
  · rw [c12]; exact x3
  · rw [c13]; exact y4
  · rw [c18]; exact (if_pos rfl).symm
  · rw [c16, d16]
end QG
