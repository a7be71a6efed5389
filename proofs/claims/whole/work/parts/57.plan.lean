/-! Plans: a plain reader, the class and the reference. -/
section PE
variable {b : Nat → Int32} {n : Nat} {S : zS} {i : Nat} {f w : Int32}
def tkoR (s : Int32) : Option Nat := if s = 116 then some 0 else if s = 107 then some 1 else if s = 111 then some 2 else if s = 104 then some 3 else if s = 119 then some 4 else none
def pD1 (b : Nat → Int32) (n j : Nat) (F : Nat → Int32 → zPR) : zPR := if 48 ≤ pk b n j ∧ pk b n j ≤ 57 then F (sk b n j + 1) (pk b n j - 48) else .inl (sk b n j)
def pStep (b : Nat → Int32) (n i : Nat) : zPR := match tkoR (pk b n i) with
  | some l => .inr (sk b n i + 1, [Int32.ofNat l])
  | none => if pk b n i = 100 then pD1 b n (sk b n i + 1) (fun j h => .inr (j, [10 + h]))
    else if pk b n i = 121 then pD1 b n (sk b n i + 1) (fun j h => pD1 b n j (fun j2 t => .inr (j2, [(100 + (10 * h)) + t])))
    else .inl (sk b n i)
theorem pD1_y {j : Nat} {F : Nat → Int32 → zPR} (g : 48 ≤ pk b n j ∧ pk b n j ≤ 57) : pD1 b n j F = F (sk b n j + 1) (pk b n j - 48) := if_pos g
theorem pD1_n {j : Nat} {F : Nat → Int32 → zPR} (g : ¬ (48 ≤ pk b n j ∧ pk b n j ≤ 57)) : pD1 b n j F = .inl (sk b n j) := if_neg g
def pSteps (b : Nat → Int32) (n : Nat) : Nat → Nat → List Int32 → zPR
  | 0, i, _ => .inl i
  | k + 1, i, c => pB (pStep b n i) (fun i' d => if pk b n i' = 59 then (if k = 0 then .inl (sk b n i') else pSteps b n k (sk b n i' + 1) (c ++ d)) else if sk b n i' < n then .inl (sk b n i') else .inr (sk b n i', c ++ d))
def pPlan (b : Nat → Int32) (n : Nat) : zPR := pSteps b n 16 0 []
theorem tko_v {x : Int32} {l : Nat} (h : tkoR x = some l) : l < 5 ∧ x ≠ 0 := by
  unfold tkoR at h
  repeat' split at h
  all_goals first | (cases h; subst_vars; exact ⟨by decide, by decide⟩) | cases h
theorem sx5_tko : ∀ v, v < 256 → sx_5 v = match tkoR (Int32.ofNat v) with
    | some l => Int32.ofNat l
    | none => -1 := by decide +kernel
theorem px5_tko (x : Int32) : px_5 x = match tkoR x with
    | some l => Int32.ofNat l
    | none => -1 := by
  unfold px_5 tkoR
  by_cases h0 : x = 116
  · subst h0; rfl
  by_cases h1 : x = 107
  · subst h1; rfl
  by_cases h2 : x = 111
  · subst h2; rfl
  by_cases h3 : x = 104
  · subst h3; rfl
  by_cases h4 : x = 119
  · subst h4; rfl
  rw [if_neg (fun q => h0 q.symm), if_neg (fun q => h1 q.symm), if_neg (fun q => h2 q.symm), if_neg (fun q => h3 q.symm), if_neg (fun q => h4 q.symm), if_neg h0, if_neg h1, if_neg h2, if_neg h3, if_neg h4]
theorem lk_tko : tkoR (lk b n i) = tkoR (pk b n i) := by
  unfold lk pk
  split <;> rfl
theorem dg_lt {i : Nat} (h : 48 ≤ pk b n i ∧ pk b n i ≤ 57) : sk b n i < n := by
  refine pkn_lt rfl (fun z => ?_)
  rw [z] at h
  exact absurd h.1 (by decide)
theorem dg_val (TB : TxB b n) (hi : i ≤ n) (h : 48 ≤ pk b n i ∧ pk b n i ≤ 57) : ∃ d, d < 10 ∧ pk b n i - 48 = Int32.ofNat d := by
  obtain ⟨v, v1, v2⟩ := pk_v' TB hi
  rw [v2] at h ⊢
  have g := dg_of v1 h
  refine ⟨v - 48, by omega, ?_⟩
  exact (Int32.ofNat_sub v 48 g.1).symm
theorem pStep_g (TB : TxB b n) (hi : i ≤ n) {i' : Nat} {d : List Int32} (h : pStep b n i = .inr (i', d)) : i < i' ∧ i' ≤ n ∧ ∃ v, d = [v] ∧ stepOk v := by
  have s1 := sk_ge (b := b) hi
  unfold pStep at h
  cases ht : tkoR (pk b n i) with
  | some l =>
    rw [ht] at h
    obtain ⟨l1, l2⟩ := tko_v ht
    have lt := pkn_lt rfl l2
    injection h with h
    injection h with e1 e2
    subst e1 e2
    exact ⟨by omega, by omega, _, rfl, Or.inl ⟨l, l1, rfl⟩⟩
  | none =>
    rw [ht] at h
    replace h : (if pk b n i = 100 then pD1 b n (sk b n i + 1) (fun j h => .inr (j, [10 + h])) else if pk b n i = 121 then pD1 b n (sk b n i + 1) (fun j h => pD1 b n j (fun j2 t => .inr (j2, [(100 + (10 * h)) + t]))) else .inl (sk b n i) : zPR) = .inr (i', d) := h
    by_cases q1 : pk b n i = 100
    · rw [if_pos q1] at h
      have lt := pkn_lt q1 (by decide)
      have j1 : sk b n i + 1 ≤ n := by omega
      have t1 := sk_ge (b := b) j1
      by_cases g : 48 ≤ pk b n (sk b n i + 1) ∧ pk b n (sk b n i + 1) ≤ 57
      · rw [pD1_y g] at h
        have lt1 := dg_lt g
        obtain ⟨e, e1, e2⟩ := dg_val TB j1 g
        injection h with h
        injection h with h1 h2
        subst h1 h2
        exact ⟨by omega, by omega, _, rfl, Or.inr (Or.inl ⟨e, e1, by rw [e2, ix_k10]⟩)⟩
      · rw [pD1_n g] at h
        cases h
    · rw [if_neg q1] at h
      by_cases q2 : pk b n i = 121
      · rw [if_pos q2] at h
        have lt := pkn_lt q2 (by decide)
        have j1 : sk b n i + 1 ≤ n := by omega
        have t1 := sk_ge (b := b) j1
        by_cases g : 48 ≤ pk b n (sk b n i + 1) ∧ pk b n (sk b n i + 1) ≤ 57
        · rw [pD1_y g] at h
          have lt1 := dg_lt g
          have j2 : sk b n (sk b n i + 1) + 1 ≤ n := by omega
          have u1 := sk_ge (b := b) j2
          by_cases g2 : 48 ≤ pk b n (sk b n (sk b n i + 1) + 1) ∧ pk b n (sk b n (sk b n i + 1) + 1) ≤ 57
          · rw [pD1_y g2] at h
            have lt2 := dg_lt g2
            obtain ⟨e, e1, e2⟩ := dg_val TB j1 g
            obtain ⟨e', e1', e2'⟩ := dg_val TB j2 g2
            injection h with h
            injection h with h1 h2
            subst h1 h2
            exact ⟨by omega, by omega, _, rfl, Or.inr (Or.inr ⟨e, e', e1, e1', by rw [e2, e2', ix_m10, ix_k100, ix_aa]⟩)⟩
          · rw [pD1_n g2] at h
            cases h
        · rw [pD1_n g] at h
          cases h
      · rw [if_neg q2] at h
        cases h
theorem c_dig1 (T : CTx S b n) (n2 : n ≤ 200) (hi : i ≤ n) : f_X9_digit (tS S i (-1)) = if 48 ≤ pk b n i ∧ pk b n i ≤ 57 then some (pk b n i - 48, tS S (sk b n i + 1) (-1)) else some (0, tS S (sk b n i) (Int32.ofNat (sk b n i))) := by
  unfold f_X9_digit
  rw [c_sign1 T n2 hi, zbE, c_isDigit, zbE, zlE, tS_up, c_fail1, zbE]
  by_cases q : 48 ≤ pk b n i ∧ pk b n i ≤ 57
  · rw [if_pos q, if_pos (show ¬ (1 : Int32) = 0 by decide), if_pos q]
  · rw [if_neg q, if_neg (nn rfl), if_neg q]
theorem c_dig0 (T : CTx S b n) (n2 : n ≤ 200) (hi : i ≤ n) {y : Nat} (hy : y < 2147483648) : f_X9_digit (tS S i (Int32.ofNat y)) = some (0, tS S (sk b n i) (Int32.ofNat y)) := by
  unfold f_X9_digit
  rw [c_sign0 T n2 hi hy, zbE, c_isDigit, zbE, if_neg (show ¬ ((48 : Int32) ≤ 0 ∧ (0 : Int32) ≤ 57) by decide), if_neg (nn rfl), c_fail0 hy, zbE]
theorem c_step (T : CTx S b n) (TB : TxB b n) (hi : i ≤ n) : (∀ x, pStep b n i = .inl x → x ≤ n ∧ ∃ v i', i' ≤ n ∧ f_X6_readStep (tS S i (-1)) = some (v, tS S i' (Int32.ofNat x))) ∧ ∀ i' c, pStep b n i = .inr (i', c) → ∃ v, c = [v] ∧ f_X6_readStep (tS S i (-1)) = some (v, tS S i' (-1)) := by
  have n2 := TB.1
  have s1 := sk_ge (b := b) hi
  have s2 := sk_le (b := b) hi
  obtain ⟨u, u1, u2⟩ := pk_v' TB hi
  unfold f_X6_readStep pStep
  rw [c_sign1 T n2 hi, zbE, show f_J0_indexOf_0f7a4_1000105 (((pk b n i).toUInt32 % 65536).toInt32) (tS S (sk b n i) (-1)) = some (sx_5 u, tS S (sk b n i) (-1)) by rw [u2]; exact c_idx_5 u1 _, zbE, sx5_tko u u1, ← u2]
  simp only [zlE, tS_up]
  cases ht : tkoR (pk b n i) with
  | some l =>
    obtain ⟨l1, l2⟩ := tko_v ht
    have a1 : (0 : Int32) ≤ Int32.ofNat l := (io_le (a := 0) (by omega) (by omega)).mpr (by omega)
    have a2 : ¬ Int32.ofNat l < 0 := Int32.not_lt.mpr a1
    refine ⟨fun x h => (by cases h), fun i' c h => ?_⟩
    injection h with h
    injection h with e1 e2
    subst e1 e2
    refine ⟨_, rfl, ?_⟩
    show (if (0 : Int32) ≤ Int32.ofNat l then (if Int32.ofNat l < 0 then _ else _) else _) = _
    rw [if_pos a1, if_neg a2]
  | none =>
    show (∀ x, (if pk b n i = 100 then pD1 b n (sk b n i + 1) (fun j h => .inr (j, [10 + h])) else if pk b n i = 121 then pD1 b n (sk b n i + 1) (fun j h => pD1 b n j (fun j2 t => .inr (j2, [(100 + (10 * h)) + t]))) else .inl (sk b n i) : zPR) = .inl x → x ≤ n ∧ ∃ v i', i' ≤ n ∧ (if (0 : Int32) ≤ -1 then _ else _) = some (v, tS S i' (Int32.ofNat x))) ∧ ∀ i' c, (if pk b n i = 100 then pD1 b n (sk b n i + 1) (fun j h => .inr (j, [10 + h])) else if pk b n i = 121 then pD1 b n (sk b n i + 1) (fun j h => pD1 b n j (fun j2 t => .inr (j2, [(100 + (10 * h)) + t]))) else .inl (sk b n i) : zPR) = .inr (i', c) → ∃ v, c = [v] ∧ (if (0 : Int32) ≤ -1 then _ else _) = some (v, tS S i' (-1))
    rw [if_neg (show ¬ (0 : Int32) ≤ -1 by decide), if_pos (show (-1 : Int32) < 0 by decide)]
    by_cases q1 : pk b n i = 100
    · have lt := pkn_lt q1 (by decide)
      have j1 : sk b n i + 1 ≤ n := by omega
      rw [if_pos q1, if_pos q1, c_dig1 T n2 j1]
      by_cases g : 48 ≤ pk b n (sk b n i + 1) ∧ pk b n (sk b n i + 1) ≤ 57
      · rw [pD1_y g, if_pos g, zbE, if_neg (nn q1)]
        refine ⟨fun x h => (by cases h), fun i' c h => ?_⟩
        injection h with h
        injection h with e1 e2
        subst e1 e2
        exact ⟨_, rfl, rfl⟩
      · rw [pD1_n g, if_neg g, zbE, if_neg (nn q1)]
        refine ⟨fun x h => ?_, fun i' c h => by cases h⟩
        cases h
        exact ⟨sk_le j1, _, _, sk_le j1, rfl⟩
    · rw [if_neg q1, if_neg q1]
      by_cases q2 : pk b n i = 121
      · have lt := pkn_lt q2 (by decide)
        have j1 : sk b n i + 1 ≤ n := by omega
        have t1 := sk_ge (b := b) j1
        rw [if_pos q2, if_pos q2, c_dig1 T n2 j1]
        by_cases g : 48 ≤ pk b n (sk b n i + 1) ∧ pk b n (sk b n i + 1) ≤ 57
        · have lt1 := dg_lt g
          have j2 : sk b n (sk b n i + 1) + 1 ≤ n := by omega
          rw [pD1_y g, if_pos g, zbE, if_pos q1, c_dig1 T n2 j2]
          by_cases g2 : 48 ≤ pk b n (sk b n (sk b n i + 1) + 1) ∧ pk b n (sk b n (sk b n i + 1) + 1) ≤ 57
          · rw [pD1_y g2, if_pos g2, zbE]
            refine ⟨fun x h => (by cases h), fun i' c h => ?_⟩
            injection h with h
            injection h with e1 e2
            subst e1 e2
            exact ⟨_, rfl, rfl⟩
          · rw [pD1_n g2, if_neg g2, zbE]
            refine ⟨fun x h => ?_, fun i' c h => by cases h⟩
            cases h
            exact ⟨sk_le j2, _, _, sk_le j2, rfl⟩
        · have t2 := sk_le (b := b) j1
          rw [pD1_n g, if_neg g, zbE, if_pos q1, c_dig0 T n2 t2 (by omega), zbE]
          refine ⟨fun x h => ?_, fun i' c h => by cases h⟩
          cases h
          exact ⟨t2, _, _, sk_le t2, rfl⟩
      · rw [if_neg q2, if_neg q2, c_fail1, zbE]
        refine ⟨fun x h => ?_, fun i' c h => by cases h⟩
        cases h
        exact ⟨s2, _, _, s2, rfl⟩
/-- the reference's digit -/
theorem r_dig1 (T : RTx S b n) (hi : i ≤ n) : f_X12_digit (rS S i (-1) w) = if 48 ≤ pk b n i ∧ pk b n i ≤ 57 then some (pk b n i - 48, rS S (sk b n i + 1) (-1) w) else some (0, rS S (sk b n i) (Int32.ofNat (sk b n i)) w) := by
  have n2 := T.1
  have s2 := sk_le (b := b) hi
  unfold f_X12_digit
  rw [r_look T hi, zbE, r_isDigit T s2, zbE, zlE, rS_up, r_fails1, zbE]
  by_cases q : 48 ≤ pk b n i ∧ pk b n i ≤ 57
  · have lt := dg_lt q
    have q' : 48 ≤ b (sk b n i) ∧ b (sk b n i) ≤ 57 := by rw [← pk_of lt]; exact q
    rw [if_pos (show sk b n i < n ∧ 48 ≤ b (sk b n i) ∧ b (sk b n i) ≤ 57 from ⟨lt, q'⟩), if_pos (show ¬ (1 : Int32) = 0 by decide), if_pos q]
    obtain ⟨-, e9, q0, e8, ⟨e5, q3, hb⟩ | ⟨e5, q3, hb⟩⟩ := T
    · have y := hb (sk b n i) lt
      rw [rS_2, e5, zkr_ref, if_pos rfl, rS_8, rS_10, e8, ix_aa, io_mm (by omega), if_pos (io_in (by omega) (by omega)), io_cl (by omega), rS_b (by decide), show q0 + (sk b n i + 1) - 1 = q0 + sk b n i by omega, y.dg.2 q', pk_of lt]
    · have y := hb (sk b n i) lt
      rw [rS_2, e5, zkr_ref, if_neg (by decide), if_pos rfl, rS_8, rS_10, e8, ix_aa, io_mm (by omega), if_pos (io_in (by omega) (by omega)), io_cl (by omega), rS_b (by decide), show q0 + (sk b n i + 1) - 1 = q0 + sk b n i by omega, y.dg.2 q', pk_of lt]
  · rw [if_neg (show ¬ (sk b n i < n ∧ 48 ≤ b (sk b n i) ∧ b (sk b n i) ≤ 57) from fun h => q (by rw [pk_of h.1]; exact h.2)), if_neg (nn rfl), if_neg q]
theorem r_step (T : RTx S b n) (hi : i ≤ n) : (∀ x, pStep b n i = .inl x → x ≤ n ∧ ∃ v i', f_X12_readStep (rS S i (-1) w) = some (v, rS S i' (Int32.ofNat x) w)) ∧ ∀ i' c, pStep b n i = .inr (i', c) → ∃ v, c = [v] ∧ f_X12_readStep (rS S i (-1) w) = some (v, rS S i' (-1) w) := by
  have n2 := T.1
  have s1 := sk_ge (b := b) hi
  have s2 := sk_le (b := b) hi
  unfold f_X12_readStep pStep
  rw [r_look T hi, zbE, r_pl_5, zbE, px5_tko, lk_tko]
  simp only [zlE, rS_up, lk_eq (show (100 : Int32) ≠ 0 by decide) (by decide), lk_eq (show (121 : Int32) ≠ 0 by decide) (by decide)]
  cases ht : tkoR (pk b n i) with
  | some l =>
    obtain ⟨l1, l2⟩ := tko_v ht
    refine ⟨fun x h => (by cases h), fun i' c h => ?_⟩
    injection h with h
    injection h with e1 e2
    subst e1 e2
    refine ⟨_, rfl, ?_⟩
    show (if ¬ Int32.ofNat l = -1 then (if Int32.ofNat l = -1 then _ else _) else _) = _
    rw [if_pos (io_ne1 (by omega)), if_neg (io_ne1 (by omega))]
  | none =>
    show (∀ x, (if pk b n i = 100 then pD1 b n (sk b n i + 1) (fun j h => .inr (j, [10 + h])) else if pk b n i = 121 then pD1 b n (sk b n i + 1) (fun j h => pD1 b n j (fun j2 t => .inr (j2, [(100 + (10 * h)) + t]))) else .inl (sk b n i) : zPR) = .inl x → x ≤ n ∧ ∃ v i', (if ¬ (-1 : Int32) = -1 then _ else _) = some (v, rS S i' (Int32.ofNat x) w)) ∧ ∀ i' c, (if pk b n i = 100 then pD1 b n (sk b n i + 1) (fun j h => .inr (j, [10 + h])) else if pk b n i = 121 then pD1 b n (sk b n i + 1) (fun j h => pD1 b n j (fun j2 t => .inr (j2, [(100 + (10 * h)) + t]))) else .inl (sk b n i) : zPR) = .inr (i', c) → ∃ v, c = [v] ∧ (if ¬ (-1 : Int32) = -1 then _ else _) = some (v, rS S i' (-1) w)
    rw [if_neg m1, if_pos (show (-1 : Int32) = -1 from rfl)]
    by_cases q1 : pk b n i = 100
    · have lt := pkn_lt q1 (by decide)
      have j1 : sk b n i + 1 ≤ n := by omega
      have t2 := sk_le (b := b) j1
      rw [if_pos q1, if_pos q1, r_dig1 T j1]
      by_cases g : 48 ≤ pk b n (sk b n i + 1) ∧ pk b n (sk b n i + 1) ≤ 57
      · rw [pD1_y g, if_pos g, zbE, rS_11, if_neg m1, if_neg (nn q1)]
        refine ⟨fun x h => (by cases h), fun i' c h => ?_⟩
        injection h with h
        injection h with e1 e2
        subst e1 e2
        exact ⟨_, rfl, rfl⟩
      · rw [pD1_n g, if_neg g, zbE, rS_11, if_pos (io_ne1 (by omega))]
        refine ⟨fun x h => ?_, fun i' c h => by cases h⟩
        cases h
        exact ⟨t2, _, _, rfl⟩
    · rw [if_neg q1, if_neg q1]
      by_cases q2 : pk b n i = 121
      · have lt := pkn_lt q2 (by decide)
        have j1 : sk b n i + 1 ≤ n := by omega
        have t1 := sk_ge (b := b) j1
        have t2 := sk_le (b := b) j1
        rw [if_pos q2, if_pos q2, r_dig1 T j1]
        by_cases g : 48 ≤ pk b n (sk b n i + 1) ∧ pk b n (sk b n i + 1) ≤ 57
        · have lt1 := dg_lt g
          have j2 : sk b n (sk b n i + 1) + 1 ≤ n := by omega
          rw [pD1_y g, if_pos g, zbE, rS_11, if_neg m1, if_pos q1, r_dig1 T j2]
          by_cases g2 : 48 ≤ pk b n (sk b n (sk b n i + 1) + 1) ∧ pk b n (sk b n (sk b n i + 1) + 1) ≤ 57
          · rw [pD1_y g2, if_pos g2, zbE]
            refine ⟨fun x h => (by cases h), fun i' c h => ?_⟩
            injection h with h
            injection h with e1 e2
            subst e1 e2
            exact ⟨_, rfl, rfl⟩
          · rw [pD1_n g2, if_neg g2, zbE]
            refine ⟨fun x h => ?_, fun i' c h => by cases h⟩
            cases h
            exact ⟨sk_le j2, _, _, rfl⟩
        · rw [pD1_n g, if_neg g, zbE, rS_11, if_pos (io_ne1 (by omega))]
          refine ⟨fun x h => ?_, fun i' c h => by cases h⟩
          cases h
          exact ⟨t2, _, _, rfl⟩
      · rw [if_neg q2, if_neg q2, r_fails1, zbE]
        refine ⟨fun x h => ?_, fun i' c h => by cases h⟩
        cases h
        exact ⟨s2, _, _, rfl⟩
end PE
