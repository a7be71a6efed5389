/-! What was tried; how tight it was. -/
section MS
variable {d M nj nh nt : Nat} {A B : zS}
def leftM (g o : Nat → Int32) : Nat → Nat → Int32 → Int32
  | 0, _, h => h
  | m + 1, i, h => if o i = 0 then (if g i < h then leftM g o m (i + 1) (m0 (h - g i / 10)) else -1) else (if g i < h then -1 else leftM g o m (i + 1) h)
theorem c_holdL {n : Nat} {g o : Nat → Int32} {x : Int32} (h1 : A.1 37 1 = Int32.ofNat n) (h2 : n ≤ 20) (h3 : ∀ i, i < n → A.1 38 i = g i) (h4 : ∀ i, i + 1 < n → o i = 0) (h5 : A.1 37 2 = if n = 0 then 0 else o (n - 1)) (h6 : ∀ i, i < n → o i = 0 ∨ o i = 1) : ∀ (m i f : Nat) (h : Int32), i + m = n → m < f → f_X3_holdNow_L4 (fun q21 _ S20 => some (q21, S20)) x f h (Int32.ofNat i) A = some (leftM g o m i h, A) := by
  intro m
  induction m with
  | zero =>
    intro i f h hi hf
    obtain ⟨f, rfl⟩ : ∃ g, f = g + 1 := ⟨f - 1, by omega⟩
    have hi : i = n := by omega
    subst hi
    unfold f_X3_holdNow_L4
    rw [h1, if_pos (Int32.le_refl _)]
    rfl
  | succ m ih =>
    intro i f h hi hf
    obtain ⟨f, rfl⟩ : ∃ g, f = g + 1 := ⟨f - 1, by omega⟩
    have hlt : ¬ Int32.ofNat n ≤ Int32.ofNat i := fun q => by rw [io_le (by omega) (by omega)] at q; omega
    have hg := h3 i (by omega)
    have z0 : (0 : Int32) = 0 := rfl
    have z01 : ¬ (0 : Int32) = 1 := by decide
    have em : Int32.ofNat n - 1 = Int32.ofNat (n - 1) := io_m1 (by omega)
    unfold f_X3_holdNow_L4 leftM
    rw [h1, if_neg hlt, em]
    simp (disch := omega) only [zlE, io_in, io_cl, if_true, io_sc, hg]
    have J : (if g i < h then (if (0 : Int32) = 0 then f_X3_holdNow_L4 (fun q21 _ S20 => some (q21, S20)) x f (if 0 < h - g i / 10 then h - g i / 10 else 0) (Int32.ofNat (i + 1)) A else some (-1, A)) else (if (1 : Int32) = 0 then f_X3_holdNow_L4 (fun q21 _ S20 => some (q21, S20)) x f (if 0 < h - g i / 10 then h - g i / 10 else 0) (Int32.ofNat (i + 1)) A else some (-1, A))) = some ((if g i < h then leftM g o m (i + 1) (m0 (h - g i / 10)) else -1), A) := by
      by_cases hq : g i < h
      · rw [if_pos hq, if_pos hq, if_pos rfl]
        exact ih (i + 1) f _ (by omega) (by omega)
      · rw [if_neg hq, if_neg hq, if_neg n10]
    by_cases ho : o i = 0
    · rw [if_pos ho]
      by_cases h37 : A.1 37 2 = 0
      · rw [if_pos h37]
        exact J
      · rw [if_neg h37]
        have hne : ¬ Int32.ofNat i = Int32.ofNat (n - 1) := fun q => by
          have := (io_eq (by omega) (by omega)).mp q
          rw [h5, if_neg (by omega), ← this] at h37
          exact h37 ho
        rw [if_pos hne]
        exact J
    · rw [if_neg ho]
      have hin : i = n - 1 := by
        by_cases hz : i + 1 < n
        · exact absurd (h4 i hz) ho
        · omega
      have h37 : ¬ A.1 37 2 = 0 := by rw [h5, if_neg (by omega), ← hin]; exact ho
      have hne : ¬ ¬ Int32.ofNat i = Int32.ofNat (n - 1) := fun q => q (by rw [hin])
      rw [if_neg h37, if_neg hne]
      by_cases hq : g i < h
      · rw [if_pos hq, if_pos hq, if_neg z01]
      · rw [if_neg hq, if_neg hq]
        exact ih (i + 1) f _ (by omega) (by omega)
theorem r_leftL {n : Nat} {x : Int32} (h1 : B.1 41 50 = Int32.ofNat n) (h2 : n ≤ 20) (h6 : ∀ i, i < n → B.1 61 i = 0 ∨ B.1 61 i = 1) : ∀ (m i f : Nat) (h : Int32), i + m = n → m < f → f_X12_leftOf_L4 (fun q16 _ S15 => some (q16, S15)) x f h (Int32.ofNat i) B = some (leftM (B.1 60) (B.1 61) m i h, B) := by
  intro m
  induction m with
  | zero =>
    intro i f h hi hf
    obtain ⟨f, rfl⟩ : ∃ g, f = g + 1 := ⟨f - 1, by omega⟩
    have hi : i = n := by omega
    subst hi
    unfold f_X12_leftOf_L4
    rw [h1, if_pos (Int32.le_refl _)]
    rfl
  | succ m ih =>
    intro i f h hi hf
    obtain ⟨f, rfl⟩ : ∃ g, f = g + 1 := ⟨f - 1, by omega⟩
    have hlt : ¬ Int32.ofNat n ≤ Int32.ofNat i := fun q => by rw [io_le (by omega) (by omega)] at q; omega
    have z01 : ¬ (0 : Int32) = 1 := by decide
    unfold f_X12_leftOf_L4 leftM
    rw [h1, if_neg hlt]
    simp (disch := omega) only [zlE, io_in, io_cl, if_true, io_sc]
    rcases h6 i (by omega) with ho | ho
    · by_cases hq : B.1 60 i < h
      · simp only [ho, hq, if_true, if_false, not_true_eq_false]
        exact ih (i + 1) f _ (by omega) (by omega)
      · simp only [ho, hq, if_true, if_false, z01]
    · by_cases hq : B.1 60 i < h
      · simp only [ho, hq, if_true, if_false, n10]
      · simp only [ho, hq, if_true, if_false, n10, not_false_eq_true]
        exact ih (i + 1) f _ (by omega) (by omega)
def cntM (L : Nat → Int32) (v : Int32) : Nat → Nat → Int32 → Int32
  | 0, _, a => a
  | m + 1, i, a => cntM L v m (i + 1) (if L i = -1 then a else if v < L i then a else a + 1)
def leastM (L : Nat → Int32) : Nat → Nat → Int32
  | 0, _ => -1
  | m + 1, i => if L i = -1 then leastM L m (i + 1) else Int32.ofNat i
def greatM (L : Nat → Int32) : Nat → Int32
  | 0 => -1
  | i + 1 => if L i = -1 then greatM L i else Int32.ofNat i
def mostM (L : Nat → Int32) : Nat → Nat → Int32 → Int32
  | 0, _, a => a
  | m + 1, i, a => mostM L m (i + 1) (if L i = -1 then a else Int32.ofNat i)
def lstM (L : Nat → Int32) : Nat → Nat → Int32 → Int32
  | 0, _, a => a
  | m + 1, i, a => lstM L m (i + 1) (if L i = -1 then a else if a = -1 then Int32.ofNat i else a)
theorem mostM_last (L : Nat → Int32) : ∀ (m i : Nat) (a : Int32), mostM L (m + 1) i a = if L (i + m) = -1 then mostM L m i a else Int32.ofNat (i + m)
  | 0, i, a => by unfold mostM mostM; rfl
  | m + 1, i, a => by
    rw [show mostM L (m + 1 + 1) i a = mostM L (m + 1) (i + 1) (if L i = -1 then a else Int32.ofNat i) from rfl, mostM_last L m (i + 1), show i + 1 + m = i + (m + 1) by omega]
    rfl
theorem greatM_eq (L : Nat → Int32) : ∀ m, greatM L m = mostM L m 0 (-1)
  | 0 => rfl
  | m + 1 => by
    rw [mostM_last, Nat.zero_add, ← greatM_eq L m]
    rfl
theorem lstM_set (L : Nat → Int32) : ∀ (m i : Nat) (a : Int32), a ≠ -1 → lstM L m i a = a
  | 0, _, _, _ => rfl
  | m + 1, i, a, h => by
    unfold lstM
    rw [if_neg h]
    have : (if L i = -1 then a else a) = a := by split <;> rfl
    rw [this]
    exact lstM_set L m (i + 1) a h
theorem lstM_eq (L : Nat → Int32) : ∀ (m i : Nat), i + m < 1000000 → lstM L m i (-1) = leastM L m i
  | 0, _, _ => rfl
  | m + 1, i, h => by
    unfold lstM leastM
    rw [if_pos rfl]
    by_cases hl : L i = -1
    · rw [if_pos hl, if_pos hl]
      exact lstM_eq L m (i + 1) (by omega)
    · rw [if_neg hl, if_neg hl]
      exact lstM_set L m (i + 1) _ (io_ne1 (by omega))
theorem cnt_cg {L : Nat → Int32} {v w : Int32} : ∀ (m i : Nat) (a : Int32), (∀ k, k < i + m → L k = -1 ∨ ((v < L k) ↔ (w < L k))) → cntM L v m i a = cntM L w m i a
  | 0, _, _, _ => rfl
  | m + 1, i, a, h => by
    unfold cntM
    have e : (if L i = -1 then a else if v < L i then a else a + 1) = (if L i = -1 then a else if w < L i then a else a + 1) := by
      rcases h i (by omega) with h1 | h1
      · rw [if_pos h1, if_pos h1]
      · split
        · rfl
        · by_cases hv : v < L i
          · rw [if_pos hv, if_pos (h1.mp hv)]
          · rw [if_neg hv, if_neg (fun q => hv (h1.mpr q))]
    rw [e]
    exact cnt_cg m (i + 1) _ (fun k hk => h k (by omega))
theorem i300 {i : Nat} (h : i ≤ 300) : ¬ (300 : Int32) < Int32.ofNat i := fun q => by have := (io_lt (a := 300) (b := i) (by omega) (by omega)).mp q; omega
theorem i301 : (300 : Int32) < Int32.ofNat 301 := by decide
section G
variable {L : Nat → Int32}
theorem c_cnt (hL : ∀ i, i ≤ 300 → f_X3_holdNow (Int32.ofNat i) A = some (L i, A)) (v : Int32) : ∀ (m i f : Nat) (a : Int32), i + m = 301 → m < f → f_X3_holdsOpenedBy_L4 (fun q12 _ S11 => some (q12, S11)) v f a (Int32.ofNat i) A = some (cntM L v m i a, A) := by
  intro m
  induction m with
  | zero =>
    intro i f a hi hf
    obtain ⟨f, rfl⟩ : ∃ g, f = g + 1 := ⟨f - 1, by omega⟩
    have hi : i = 301 := by omega
    subst hi
    unfold f_X3_holdsOpenedBy_L4
    rw [if_pos i301]
    rfl
  | succ m ih =>
    intro i f a hi hf
    obtain ⟨f, rfl⟩ : ∃ g, f = g + 1 := ⟨f - 1, by omega⟩
    unfold f_X3_holdsOpenedBy_L4 cntM
    rw [if_neg (i300 (by omega)), hL i (by omega), zbE]
    simp only [zlE, io_sc]
    by_cases h1 : L i = -1
    · rw [if_pos h1, if_pos h1]
      exact ih (i + 1) f a (by omega) (by omega)
    · rw [if_neg h1, if_neg h1]
      by_cases h2 : v < L i
      · rw [if_pos h2, if_pos h2]
        exact ih (i + 1) f a (by omega) (by omega)
      · rw [if_neg h2, if_neg h2]
        exact ih (i + 1) f (a + 1) (by omega) (by omega)
theorem c_least (hL : ∀ i, i ≤ 300 → f_X3_holdNow (Int32.ofNat i) A = some (L i, A)) : ∀ (m i f : Nat), i + m = 301 → m < f → f_X3_least_L2 (fun _ S7 => some ((-1), S7)) f (Int32.ofNat i) A = some (leastM L m i, A) := by
  intro m
  induction m with
  | zero =>
    intro i f hi hf
    obtain ⟨f, rfl⟩ : ∃ g, f = g + 1 := ⟨f - 1, by omega⟩
    have hi : i = 301 := by omega
    subst hi
    unfold f_X3_least_L2
    rw [if_pos i301]
    rfl
  | succ m ih =>
    intro i f hi hf
    obtain ⟨f, rfl⟩ : ∃ g, f = g + 1 := ⟨f - 1, by omega⟩
    unfold f_X3_least_L2 leastM
    rw [if_neg (i300 (by omega)), hL i (by omega), zbE]
    simp only [zlE, io_sc]
    by_cases h1 : L i = -1
    · rw [if_pos h1, if_pos h1]
      exact ih (i + 1) f (by omega) (by omega)
    · rw [if_neg h1, if_neg h1]
theorem c_great (hL : ∀ i, i ≤ 300 → f_X3_holdNow (Int32.ofNat i) A = some (L i, A)) : ∀ (i f : Nat), i ≤ 301 → i < f → f_X3_greatest_L4 (fun _ S7 => some ((-1), S7)) f (Int32.ofNat i - 1) A = some (greatM L i, A) := by
  intro i
  induction i with
  | zero =>
    intro f hi hf
    obtain ⟨f, rfl⟩ : ∃ g, f = g + 1 := ⟨f - 1, by omega⟩
    unfold f_X3_greatest_L4
    rw [if_pos (by decide)]
    rfl
  | succ i ih =>
    intro f hi hf
    obtain ⟨f, rfl⟩ : ∃ g, f = g + 1 := ⟨f - 1, by omega⟩
    have e1 : Int32.ofNat (i + 1) - 1 = Int32.ofNat i := by rw [io_m1 (by omega)]; rfl
    have h0 : ¬ Int32.ofNat i < 0 := fun q => by rw [i_lt0, ti_nat (by omega)] at q; omega
    have e2 : Int32.ofNat i + (-1) = Int32.ofNat i - 1 := (Int32.sub_eq_add_neg _ _).symm
    unfold f_X3_greatest_L4 greatM
    rw [e1, if_neg h0, hL i (by omega), zbE]
    simp only [zlE]
    by_cases h1 : L i = -1
    · rw [if_pos h1, if_pos h1, e2]
      exact ih f (by omega) (by omega)
    · rw [if_neg h1, if_neg h1]
theorem r_tight {v : Int32} {ex : Int32 → Int32 → Int32 → Int32 → zS → Option (Int32 × zS)} (hL : ∀ i, i ≤ 300 → f_X12_leftOf (Int32.ofNat i) B = some (L i, B)) (h9 : ∀ i, i ≤ 300 → ¬ (999 : Int32) < L i) : ∀ (m i f : Nat) (a b c : Int32), i + m = 301 → m < f → f_X12_tight_L31 ex v f a b c (Int32.ofNat i) B = ex (cntM L 999 m i a) (lstM L m i b) (mostM L m i c) (Int32.ofNat 301) B := by
  intro m
  induction m with
  | zero =>
    intro i f a b c hi hf
    obtain ⟨f, rfl⟩ : ∃ g, f = g + 1 := ⟨f - 1, by omega⟩
    have hi : i = 301 := by omega
    subst hi
    unfold f_X12_tight_L31
    rw [if_pos i301]
    rfl
  | succ m ih =>
    intro i f a b c hi hf
    obtain ⟨f, rfl⟩ : ∃ g, f = g + 1 := ⟨f - 1, by omega⟩
    unfold f_X12_tight_L31 cntM lstM mostM
    rw [if_neg (i300 (by omega)), hL i (by omega), zbE]
    simp only [zlE, io_sc]
    by_cases h1 : L i = -1
    · rw [if_neg (fun q => q h1), if_pos h1, if_pos h1, if_pos h1]
      exact ih (i + 1) f a b c (by omega) (by omega)
    · rw [if_pos h1, if_neg h1, if_neg (h9 i (by omega)), if_neg h1, if_neg h1]
      by_cases h2 : b = -1
      · rw [if_neg (fun q => q h2), if_pos h2]
        exact ih (i + 1) f _ _ _ (by omega) (by omega)
      · rw [if_pos h2, if_neg h2]
        exact ih (i + 1) f _ _ _ (by omega) (by omega)
theorem r_next {v : Int32} (hL : ∀ i, i ≤ 300 → f_X12_leftOf (Int32.ofNat i) B = some (L i, B)) : ∀ (m i f : Nat) (a : Int32), i + m = 301 → m < f → f_X12_next_L23 (fun q22 _ S21 => some (q22, S21)) v f a (Int32.ofNat i) B = some (cntM L v m i a, B) := by
  intro m
  induction m with
  | zero =>
    intro i f a hi hf
    obtain ⟨f, rfl⟩ : ∃ g, f = g + 1 := ⟨f - 1, by omega⟩
    have hi : i = 301 := by omega
    subst hi
    unfold f_X12_next_L23
    rw [if_pos i301]
    rfl
  | succ m ih =>
    intro i f a hi hf
    obtain ⟨f, rfl⟩ : ∃ g, f = g + 1 := ⟨f - 1, by omega⟩
    unfold f_X12_next_L23 cntM
    rw [if_neg (i300 (by omega)), hL i (by omega), zbE]
    simp only [zlE, io_sc, Int32.add_zero]
    by_cases h1 : L i = -1
    · rw [if_pos h1, if_pos h1]
      exact ih (i + 1) f a (by omega) (by omega)
    · rw [if_neg h1, if_neg h1, hL i (by omega), zbE]
      by_cases h2 : v < L i
      · rw [if_pos h2, if_pos h2]
        exact ih (i + 1) f a (by omega) (by omega)
      · rw [if_neg h2, if_neg h2]
        exact ih (i + 1) f (a + 1) (by omega) (by omega)
end G
theorem leftM_bd {g o : Nat → Int32} (n : Nat) (hg : ∀ i, i < n → bd (g i) 0 999) : ∀ (m i : Nat) (h : Int32), i + m ≤ n → bd h 0 300 → leftM g o m i h = -1 ∨ bd (leftM g o m i h) 0 300
  | 0, _, _, _, hb => Or.inr hb
  | m + 1, i, h, hi, hb => by
    unfold leftM
    have g0 := hg i (by omega)
    split
    · split
      · exact leftM_bd n hg m (i + 1) _ (by omega) (bd_m0 hb (ti_d10 g0.1) (by omega))
      · exact Or.inl rfl
    · split
      · exact Or.inl rfl
      · exact leftM_bd n hg m (i + 1) h (by omega) hb
/-- both sides' way of what is left -/
theorem guess2 (H : InvD d M nj nh nt A B) : ∃ L : Nat → Int32, (∀ i, i ≤ 300 → f_X3_holdNow (Int32.ofNat i) A = some (L i, A)) ∧ (∀ i, i ≤ 300 → f_X12_leftOf (Int32.ofNat i) B = some (L i, B)) ∧ ∀ i, i ≤ 300 → ¬ (999 : Int32) < L i := by
  obtain ⟨u, -, -, -, -, -, -, -, -, ⟨n, g0, g1, g2, g3, g4, g5⟩, -⟩ := H
  have hg : ∀ i, i < n → bd (B.1 60 i) 0 999 := fun i hi => by rw [← (g3 i hi).1]; exact (g3 i hi).2.1
  refine ⟨fun i => leftM (B.1 60) (B.1 61) n 0 (Int32.ofNat i), fun i hi => ?_, fun i hi => ?_, fun i hi q => ?_⟩
  · exact c_holdL g1 g0 (fun i hi => (g3 i hi).1) g4 g5 (fun i hi => (g3 i hi).2.2) n 0 zN _ (by omega) (by unfold zN; omega)
  · exact r_leftL g2 g0 (fun i hi => (g3 i hi).2.2) n 0 zN _ (by omega) (by unfold zN; omega)
  · have e9 : (999 : Int32).toInt = 999 := by decide
    rw [Int32.lt_iff_toInt_lt, e9] at q
    dsimp only at q
    rcases leftM_bd (o := B.1 61) n hg n 0 (Int32.ofNat i) (by omega) ⟨by rw [ti_nat (by omega)]; omega, by rw [ti_nat (by omega)]; omega⟩ with h | h
    · rw [h, ti_n1] at q
      omega
    · have := h.2
      omega
theorem op_next (H : InvD 0 M nj nh nt A B) (hM : M < 900000) (v : Int32) : Sim M (f_X11_next v A) (f_X12_next v B) := by
  have H0 := H.thr 0
  unfold f_X11_next f_X12_next
  rw [zlE]
  generalize sV B 41 0 0 = B0 at H0 ⊢
  have e0 : (0 : Int64).toInt = 0 := by decide
  have e9 : (999 : Int64).toInt = 999 := by decide
  have f9 : (999 : Int32).toInt = 999 := by decide
  rw [if_rng', r_isIn, zbE, ti_0, f9, e0, e9]
  by_cases hv : 0 ≤ v.toInt ∧ v.toInt ≤ 999
  · rw [if_pos hv, if_pos hv, if_pos n10]
    obtain ⟨L, l1, l2, l3⟩ := guess2 H0
    have c := c_cnt l1 v 301 0 zN 0 (by omega) (by unfold zN; omega)
    have r := r_next (v := v) l2 301 0 zN 0 (by omega) (by unfold zN; omega)
    rw [show f_X3_holdsOpenedBy v A = _ from c, zbE]
    refine ⟨_, A, B0, rfl, r, H0.sim⟩
  · rw [if_neg hv, if_neg hv, if_neg n00]
    exact Sim.no H0 _
theorem op_tight (H : InvD 0 M nj nh nt A B) (hM : M < 900000) (v : Int32) : Sim M (f_X11_tight v A) (f_X12_tight v B) := by
  have H0 := H.thr 0
  unfold f_X11_tight f_X12_tight
  rw [zlE]
  generalize sV B 41 0 0 = B0 at H0 ⊢
  have e0 : (0 : Int64).toInt = 0 := by decide
  have e9 : (2 : Int64).toInt = 2 := by decide
  rw [r_isIn, zbE, e0, e9]
  by_cases hv : 0 ≤ v.toInt ∧ v.toInt ≤ 2
  · have hn : ¬ (v.toInt < 0 ∨ 2 < v.toInt) := by omega
    rw [if_pos hv, if_neg hn, if_pos n10]
    obtain ⟨L, l1, l2, l3⟩ := guess2 H0
    have r := fun ex => r_tight (v := v) (ex := ex) l2 l3 301 0 zN 0 (-1) (-1) (by omega) (by unfold zN; omega)
    have hc : v = 0 ∨ v = 1 ∨ v = 2 := by
      have : v.toInt = 0 ∨ v.toInt = 1 ∨ v.toInt = 2 := by omega
      rcases this with h | h | h
      · exact Or.inl (ti_inj h)
      · exact Or.inr (Or.inl (ti_inj h))
      · exact Or.inr (Or.inr (ti_inj h))
    refine ?_
    rcases hc with rfl | rfl | rfl
    · have c := c_cnt l1 999 301 0 zN 0 (by omega) (by unfold zN; omega)
      rw [if_pos rfl, show f_X3_holdsOpenedBy 999 A = _ from c, zbE]
      refine ⟨_, A, B0, rfl, (r _).trans ?_, H0.sim⟩
      rw [if_neg (fun q => q rfl)]
    · have c := c_least l1 301 0 zN (by omega) (by unfold zN; omega)
      rw [if_neg (by decide), if_pos rfl, show f_X3_least A = _ from c, zbE]
      refine ⟨_, A, B0, rfl, (r _).trans ?_, H0.sim⟩
      rw [if_pos (by decide), if_neg (fun q => q rfl), lstM_eq L 301 0 (by omega)]
    · have c := c_great l1 301 zN (by omega) (by unfold zN; omega)
      rw [if_neg (by decide), if_neg (by decide), if_pos rfl, show f_X3_greatest A = _ from c, zbE]
      refine ⟨_, A, B0, rfl, (r _).trans ?_, H0.sim⟩
      rw [if_pos (by decide), if_pos (by decide), greatM_eq]
  · have hn : (v.toInt < 0 ∨ 2 < v.toInt) := by omega
    rw [if_neg hv, if_pos hn, if_neg n00]
    exact Sim.no H0 _
end MS
