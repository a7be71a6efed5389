/-! The class's tape. -/
section PA
variable {b : Nat → Int32} {n : Nat} {S : zS} {i : Nat} {f : Int32}
def tS (S : zS) (i : Nat) (f : Int32) : zS := sR S 1 (ru (ru (S.1 1) 2 (Int32.ofNat i)) 3 f)
theorem tS_2 : (tS S i f).1 1 2 = Int32.ofNat i := by
  unfold tS
  rw [sR_at, ru_ne (by decide), ru_at]
theorem tS_3 : (tS S i f).1 1 3 = f := by
  unfold tS
  rw [sR_at, ru_at]
theorem tS_1 : (tS S i f).1 1 1 = S.1 1 1 := by
  unfold tS
  rw [sR_at, ru_ne (by decide), ru_ne (by decide)]
theorem tS_b {a : Nat} (h : a ≠ 1) : (tS S i f).1 a = S.1 a := sR_ne _ _ h
theorem tS_q : (tS S i f).2 = S.2 := rfl
theorem tS_s2 (j : Nat) : sV (tS S i f) 1 2 (Int32.ofNat j) = tS S j f := by
  unfold tS
  rw [sV_eq, sR_sR, sR_at]
  congr 1
  funext k
  unfold ru
  by_cases h1 : k = 2 <;> by_cases h2 : k = 3 <;> first | omega | simp [h1, h2]
theorem tS_s3 (x : Int32) : sV (tS S i f) 1 3 x = tS S i x := by
  unfold tS
  rw [sV_eq, sR_sR, sR_at, ru_ru]
theorem tS_up : sV (tS S i f) 1 2 ((tS S i f).1 1 2 + 1) = tS S (i + 1) f := by rw [tS_2, io_sc, tS_s2]
theorem tS_sk {a k : Nat} (h : a ≠ 1) (x : Int32) : sV (tS S i f) a k x = tS (sV S a k x) i f := by
  unfold tS
  rw [sV_eq, sV_eq, sR_ne _ _ h, sR_ne _ _ (fun q => h q.symm), sR_cm _ _ _ (fun q => h q.symm)]
theorem tS_self {X : zS} (h1 : X.1 1 2 = Int32.ofNat i) (h2 : X.1 1 3 = f) : tS X i f = X := by
  unfold tS
  rw [← h1, ← h2, ru_self, ru_self, sR_self]
def CTx (S : zS) (b : Nat → Int32) (n : Nat) : Prop := S.1 1 1 = Int32.ofNat n ∧ S.1 2 = b
theorem c_signL (T : CTx S b n) (n2 : n ≤ 200) (ex : Int32 → zS → Option (Int32 × zS)) (hex : ∀ q q' S, ex q S = ex q' S) : ∀ (d i x fu : Nat), n - i = d → i ≤ n → x + d ≤ 200 → d < fu → f_X9_sign_L2 ex fu (Int32.ofNat x) (tS S i f) = ex 0 (tS S (sk b n i) f)
  | 0, i, x, fu, hd, hi, hx, hf => by
    obtain ⟨z, rfl⟩ : ∃ z, fu = z + 1 := ⟨fu - 1, by omega⟩
    rw [f_X9_sign_L2, tS_1, T.1, tS_2, if_pos (show Int32.ofNat n ≤ Int32.ofNat i from (io_le (by omega) (by omega)).mpr (by omega)), ite_self, sk_un, if_neg (fun q => by omega)]
    exact hex _ _ _
  | d + 1, i, x, fu, hd, hi, hx, hf => by
    obtain ⟨z, rfl⟩ : ∃ z, fu = z + 1 := ⟨fu - 1, by omega⟩
    rw [f_X9_sign_L2, tS_1, T.1, if_neg (fun q => by have := (io_le (a := 200) (by omega) (by omega)).mp q; omega), if_neg (fun q => by rw [tS_2] at q; have := (io_le (by omega) (by omega)).mp q; omega), tS_up, tS_2, if_pos (io_in (by omega) (by omega)), io_cl (by omega), tS_b (by decide), T.2, zlE, zlE, io_sc, sk_un]
    by_cases q : b i = 32
    · rw [if_neg (nn q), if_pos ⟨by omega, q⟩]
      exact c_signL T n2 ex hex d (i + 1) (x + 1) z (by omega) (by omega) (by omega) (by omega)
    · rw [if_pos q, if_neg (fun h => q h.2)]
      exact hex _ _ _
theorem c_sign1 (T : CTx S b n) (n2 : n ≤ 200) (hi : i ≤ n) : f_X9_sign (tS S i (-1)) = some (pk b n i, tS S (sk b n i) (-1)) := by
  have s2 := sk_le (b := b) hi
  unfold f_X9_sign
  rw [show (0 : Int32) = Int32.ofNat 0 from rfl, c_signL T n2 _ (fun _ _ _ => rfl) (n - i) i 0 zN rfl hi (by omega) (by unfold zN; omega), tS_3, if_neg m1, tS_1, T.1, tS_2]
  unfold pk
  by_cases q : sk b n i < n
  · rw [if_neg (fun h => by have := (io_le (by omega) (by omega)).mp h; omega), if_pos (io_in (by omega) (by omega)), io_cl (by omega), tS_b (by decide), T.2, if_pos q]
  · rw [if_pos ((io_le (by omega) (by omega)).mpr (by omega)), if_neg q]
    rfl
theorem c_sign0 (T : CTx S b n) (n2 : n ≤ 200) (hi : i ≤ n) {y : Nat} (hy : y < 2147483648) : f_X9_sign (tS S i (Int32.ofNat y)) = some (0, tS S (sk b n i) (Int32.ofNat y)) := by
  unfold f_X9_sign
  rw [show (0 : Int32) = Int32.ofNat 0 from rfl, c_signL T n2 _ (fun _ _ _ => rfl) (n - i) i 0 zN rfl hi (by omega) (by unfold zN; omega), tS_3, if_pos (io_ne1 hy)]
theorem c_fail1 : f_X9_fail (tS S i (-1)) = some ((), tS S i (Int32.ofNat i)) := by
  unfold f_X9_fail
  rw [tS_3, if_neg m1, zlE, tS_2, tS_s3]
theorem c_fail0 {y : Nat} (hy : y < 2147483648) : f_X9_fail (tS S i (Int32.ofNat y)) = some ((), tS S i (Int32.ofNat y)) := by
  unfold f_X9_fail
  rw [tS_3, if_pos (io_ne1 hy)]
theorem c_isDigit (v : Int32) (S : zS) : f_X9_isDigit v S = some (if 48 ≤ v ∧ v ≤ 57 then 1 else 0, S) := by
  unfold f_X9_isDigit
  by_cases h1 : v < 48
  · rw [if_pos h1, if_neg (fun q => Int32.not_le.mpr h1 q.1)]
  · rw [if_neg h1]
    by_cases h2 : 57 < v
    · rw [if_pos h2, if_neg (fun q => Int32.not_le.mpr h2 q.2)]
    · rw [if_neg h2, if_pos ⟨Int32.not_lt.mp h1, Int32.not_lt.mp h2⟩]
theorem c_takes1 (T : CTx S b n) (n2 : n ≤ 200) (hi : i ≤ n) (x : Int32) : f_X9_takes x (tS S i (-1)) = if pk b n i = x then some (1, tS S (sk b n i + 1) (-1)) else some (0, tS S (sk b n i) (-1)) := by
  unfold f_X9_takes
  rw [c_sign1 T n2 hi, zbE, zlE, tS_up]
theorem c_takes0 (T : CTx S b n) (n2 : n ≤ 200) (hi : i ≤ n) {y : Nat} (hy : y < 2147483648) {x : Int32} (hx : x ≠ 0) : f_X9_takes x (tS S i (Int32.ofNat y)) = some (0, tS S (sk b n i) (Int32.ofNat y)) := by
  unfold f_X9_takes
  rw [c_sign0 T n2 hi hy, zbE, if_neg (fun q => hx q.symm)]
theorem c_needs1 (T : CTx S b n) (n2 : n ≤ 200) (hi : i ≤ n) (x : Int32) : f_X9_needs x (tS S i (-1)) = if pk b n i = x then some ((), tS S (sk b n i + 1) (-1)) else some ((), tS S (sk b n i) (Int32.ofNat (sk b n i))) := by
  unfold f_X9_needs
  rw [c_sign1 T n2 hi, zbE, zlE, tS_up, c_fail1, zbE]
  by_cases q : pk b n i = x
  · rw [if_neg (nn q), if_pos q]
  · rw [if_pos q, if_neg q]
theorem c_needs0 (T : CTx S b n) (n2 : n ≤ 200) (hi : i ≤ n) {y : Nat} (hy : y < 2147483648) {x : Int32} (hx : x ≠ 0) : f_X9_needs x (tS S i (Int32.ofNat y)) = some ((), tS S (sk b n i) (Int32.ofNat y)) := by
  unfold f_X9_needs
  rw [c_sign0 T n2 hi hy, zbE, if_pos (fun q => hx q.symm), c_fail0 hy, zbE]
theorem c_end1 (T : CTx S b n) (n2 : n ≤ 200) (hi : i ≤ n) : f_X9_needsEnd (tS S i (-1)) = if pk b n i = 0 then some ((), tS S (sk b n i) (-1)) else some ((), tS S (sk b n i) (Int32.ofNat (sk b n i))) := by
  unfold f_X9_needsEnd
  rw [c_sign1 T n2 hi, zbE, c_fail1, zbE]
theorem c_end0 (T : CTx S b n) (n2 : n ≤ 200) (hi : i ≤ n) {y : Nat} (hy : y < 2147483648) : f_X9_needsEnd (tS S i (Int32.ofNat y)) = some ((), tS S (sk b n i) (Int32.ofNat y)) := by
  unfold f_X9_needsEnd
  rw [c_sign0 T n2 hi hy, zbE, if_pos rfl]
theorem pk_0 (T : TxB b n) (hi : i ≤ n) : pk b n i = 0 ↔ ¬ sk b n i < n := by
  obtain ⟨v, v1, v2, v3, v4⟩ := pk_v T hi
  rw [v2]
  constructor
  · intro q h
    have := v3 h
    have := (io_eq (b := 0) (by omega) (by omega)).mp q
    omega
  · intro q
    rw [v4 q]
    rfl
theorem c_numL (T : CTx S b n) (n2 : n ≤ 200) {ex : Int32 → Int32 → zS → Option (Int32 × zS)} (hex : ∀ v q q' S, ex v q S = ex v q' S) {D : Nat} (hD : D < 1000) {i2 i3 : Int32} : ∀ (d i x fu : Nat) (v : Int32), x + d = D → i ≤ n → d < fu → f_X9_number_L22 ex (Int32.ofNat D) i2 i3 fu v (Int32.ofNat x) (tS S i f) = ex (pnum b n d i v).2 0 (tS S (pnum b n d i v).1 f)
  | 0, i, x, fu, v, hx, hi, hf => by
    obtain ⟨z, rfl⟩ : ∃ z, fu = z + 1 := ⟨fu - 1, by omega⟩
    rw [f_X9_number_L22, if_pos ((io_le (by omega) (by omega)).mpr (by omega)), pnum]
    exact hex _ _ _ _
  | d + 1, i, x, fu, v, hx, hi, hf => by
    obtain ⟨z, rfl⟩ : ∃ z, fu = z + 1 := ⟨fu - 1, by omega⟩
    rw [f_X9_number_L22, if_neg (fun q => by have := (io_le (by omega) (by omega)).mp q; omega), tS_1, T.1, pnum]
    by_cases h : i < n
    · rw [if_neg (fun q => by rw [tS_2] at q; have := (io_le (by omega) (by omega)).mp q; omega), if_pos (show ia_in ((tS S i f).1 1 2) 200 = true by rw [tS_2]; exact io_in (by omega) (by omega)), c_isDigit, zbE, if_pos (show ia_in ((tS S i f).1 1 2) 200 = true by rw [tS_2]; exact io_in (by omega) (by omega)), zlE, zlE, zlE, tS_up, tS_2, io_cl (by omega), tS_b (by decide), T.2, io_sc]
      by_cases q : 48 ≤ b i ∧ b i ≤ 57
      · rw [if_pos q, if_neg (show ¬ (1 : Int32) = 0 by decide), if_pos ⟨h, q⟩]
        exact c_numL T n2 hex hD d (i + 1) (x + 1) z _ (by omega) (by omega) (by omega)
      · rw [if_neg q, if_pos rfl, if_neg (fun h' => q h'.2)]
        exact hex _ _ _ _
    · rw [if_pos (show _ from by rw [tS_2]; exact (io_le (by omega) (by omega)).mpr (by omega)), if_neg (fun h' => h h'.1)]
      exact hex _ _ _ _
theorem c_number1 (T : CTx S b n) (n2 : n ≤ 200) (hi : i ≤ n) {D : Nat} (hD : D < 1000) (lo hg : Int32) (hd : 48 ≤ pk b n i ∧ pk b n i ≤ 57) : f_X9_number (Int32.ofNat D) lo hg (tS S i (-1)) =
    if (pnum b n D (sk b n i) 0).1 < n ∧ 48 ≤ b (pnum b n D (sk b n i) 0).1 ∧ b (pnum b n D (sk b n i) 0).1 ≤ 57 then some ((pnum b n D (sk b n i) 0).2, tS S (pnum b n D (sk b n i) 0).1 (Int32.ofNat (pnum b n D (sk b n i) 0).1))
    else if (pnum b n D (sk b n i) 0).2 < lo ∨ hg < (pnum b n D (sk b n i) 0).2 then some ((pnum b n D (sk b n i) 0).2, tS S (pnum b n D (sk b n i) 0).1 (Int32.ofNat (pnum b n D (sk b n i) 0).1 - 1))
    else some ((pnum b n D (sk b n i) 0).2, tS S (pnum b n D (sk b n i) 0).1 (-1)) := by
  have s2 := sk_le (b := b) hi
  have p2 := (pnum_i (b := b) D (sk b n i) 0 s2).2
  unfold f_X9_number
  rw [c_sign1 T n2 hi, zbE, c_isDigit, zbE, if_pos hd, if_pos (show ¬ (1 : Int32) = 0 by decide)]
  refine (c_numL T n2 (fun _ _ _ _ => rfl) hD D (sk b n i) 0 zN 0 (by omega) s2 (by unfold zN; omega)).trans ?_
  generalize pnum b n D (sk b n i) 0 = p at p2
  obtain ⟨p1, v⟩ := p
  replace p2 : p1 ≤ n := p2
  show zl _ _ = if p1 < n ∧ 48 ≤ b p1 ∧ b p1 ≤ 57 then some (v, tS S p1 (Int32.ofNat p1)) else if v < lo ∨ hg < v then some (v, tS S p1 (Int32.ofNat p1 - 1)) else some (v, tS S p1 (-1))
  have J : (if v < lo then zl (sV (tS S p1 (-1)) 1 3 ((tS S p1 (-1)).1 1 2 - 1)) fun S28 => some (v, S28) else if v ≤ hg then some (v, tS S p1 (-1)) else zl (sV (tS S p1 (-1)) 1 3 ((tS S p1 (-1)).1 1 2 - 1)) fun S28 => some (v, S28)) = if v < lo ∨ hg < v then some (v, tS S p1 (Int32.ofNat p1 - 1)) else some (v, tS S p1 (-1)) := by
    rw [zlE, tS_2, tS_s3]
    by_cases h1 : v < lo
    · rw [if_pos h1, if_pos (Or.inl h1)]
    · rw [if_neg h1]
      by_cases h2 : v ≤ hg
      · rw [if_pos h2, if_neg (fun q => q.elim h1 (fun q => Int32.not_lt.mpr h2 q))]
      · rw [if_neg h2, if_pos (Or.inr (Int32.not_le.mp h2))]
  rw [zlE, tS_1, T.1]
  by_cases q : p1 < n
  · rw [if_neg (fun h => by rw [tS_2] at h; have := (io_le (by omega) (by omega)).mp h; omega), if_pos (show ia_in ((tS S p1 (-1)).1 1 2) 200 = true by rw [tS_2]; exact io_in (by omega) (by omega)), c_isDigit, zbE, c_fail1, zbE]
    have eb : (tS S p1 (-1)).1 2 ((tS S p1 (-1)).1 1 2).toNatClampNeg = b p1 := by rw [tS_2, io_cl (by omega), tS_b (by decide), T.2]
    rw [eb]
    by_cases h : 48 ≤ b p1 ∧ b p1 ≤ 57
    · rw [if_pos h, if_neg (show ¬ (1 : Int32) = 0 by decide), if_pos ⟨q, h⟩]
    · rw [if_neg h, if_pos rfl, if_neg (fun h' => h h'.2)]
      exact J
  · rw [if_pos (show _ from by rw [tS_2]; exact (io_le (by omega) (by omega)).mpr (by omega)), if_neg (fun h' => q h'.1)]
    exact J
theorem c_number0 (T : CTx S b n) (n2 : n ≤ 200) (hi : i ≤ n) (D lo hg : Int32) (hd : ¬ (48 ≤ pk b n i ∧ pk b n i ≤ 57)) : f_X9_number D lo hg (tS S i (-1)) = some (lo, tS S (sk b n i) (Int32.ofNat (sk b n i))) := by
  unfold f_X9_number
  rw [c_sign1 T n2 hi, zbE, c_isDigit, zbE, if_neg hd, if_neg (nn rfl), c_fail1, zbE]
theorem c_numberD (T : CTx S b n) (n2 : n ≤ 200) (hi : i ≤ n) (D lo hg : Int32) {y : Nat} (hy : y < 2147483648) : f_X9_number D lo hg (tS S i (Int32.ofNat y)) = some (lo, tS S (sk b n i) (Int32.ofNat y)) := by
  unfold f_X9_number
  rw [c_sign0 T n2 hi hy, zbE, c_isDigit, zbE, if_neg (by decide), c_fail0 hy, zbE]
end PA
