/-! The class reads a law. -/
section PB
variable {b : Nat → Int32} {n : Nat} {S : zS} {i m : Nat} {f : Int32} {r : Nat → Int32}
def wl (r : Nat → Int32) (m : Nat) : List Int32 → Nat → Int32
  | [] => r
  | x :: c => wl (ru r m x) (m + 1) c
theorem wl_app : ∀ (c c' : List Int32) (r : Nat → Int32) (m : Nat), wl (wl r m c) (m + c.length) c' = wl r m (c ++ c')
  | [], c', r, m => rfl
  | x :: c, c', r, m => by
    show wl (wl (ru r m x) (m + 1) c) (m + (c.length + 1)) c' = wl (ru r m x) (m + 1) (c ++ c')
    rw [show m + (c.length + 1) = m + 1 + c.length by omega]
    exact wl_app c c' (ru r m x) (m + 1)
theorem wl_lt : ∀ (c : List Int32) (r : Nat → Int32) (m k : Nat), k < m → wl r m c k = r k
  | [], r, m, k, h => rfl
  | x :: c, r, m, k, h => (wl_lt c (ru r m x) (m + 1) k (by omega)).trans (ru_ne (by omega))
theorem wl_get : ∀ (c : List Int32) (r : Nat → Int32) (m k : Nat) (h : k < c.length), wl r m c (m + k) = c[k]
  | [], r, m, k, h => absurd h (Nat.not_lt_zero _)
  | x :: c, r, m, 0, h => (wl_lt c (ru r m x) (m + 1) m (by omega)).trans (ru_at _ _ _)
  | x :: c, r, m, k + 1, h => by
    show wl (ru r m x) (m + 1) c (m + (k + 1)) = c[k]'(by rw [List.length_cons] at h; omega)
    rw [show m + (k + 1) = m + 1 + k by omega]
    exact wl_get c (ru r m x) (m + 1) k _
def lS (S : zS) (r : Nat → Int32) (m : Nat) : zS := sR (sR S 7 (ru (S.1 7) 2 (Int32.ofNat m))) 8 r
def cS (S : zS) (i : Nat) (f : Int32) (r : Nat → Int32) (m : Nat) : zS := tS (lS S r m) i f
theorem lS_7 : (lS S r m).1 7 2 = Int32.ofNat m := by
  unfold lS
  rw [sR_ne _ _ (by decide), sR_at, ru_at]
theorem lS_b {a : Nat} (h : a ≠ 7) (h2 : a ≠ 8) : (lS S r m).1 a = S.1 a := by
  unfold lS
  rw [sR_ne _ _ h2, sR_ne _ _ h]
theorem lS_8 : (lS S r m).1 8 = r := sR_at _ _ _
theorem lS_s8 (j : Nat) (x : Int32) : sV (lS S r m) 8 j x = lS S (ru r j x) m := by
  unfold lS
  rw [sV_eq, sR_sR, sR_at]
theorem lS_s7 (m' : Nat) : sV (lS S r m) 7 2 (Int32.ofNat m') = lS S r m' := by
  unfold lS
  rw [sV_eq, sR_ne _ _ (by decide), sR_at, ru_ru, sR_cm _ _ _ (by decide), sR_sR]
theorem lS_T (T : CTx S b n) : CTx (lS S r m) b n := ⟨by rw [lS_b (by decide) (by decide)]; exact T.1, by rw [lS_b (by decide) (by decide)]; exact T.2⟩
theorem c_put (x : Int32) (hm : m < 202) : f_X5_put x (cS S i f r m) = some ((), cS S i f (wl r m [x]) (m + 1)) := by
  unfold f_X5_put cS
  rw [tS_b (by decide), lS_7, if_neg (fun q => by have := (io_le (a := 202) (by omega) (by omega)).mp q; omega), if_pos (io_in (by omega) (by omega)), io_cl (by omega), zlE, zlE, tS_sk (by decide), lS_s8, tS_sk (by decide), tS_b (by decide), lS_7, io_sc, lS_s7]
  rfl
/-- it reads as the plain reader does -/
def okC (n : Nat) (S : zS) (r : Nat → Int32) (m : Nat) (mm : zPR) (o : Option (Unit × zS)) : Prop :=
  (∀ x, mm = .inl x → x ≤ n ∧ ∃ i' r' m', i' ≤ n ∧ m' ≤ 202 ∧ o = some ((), cS S i' (Int32.ofNat x) r' m')) ∧ ∀ i' c, mm = .inr (i', c) → o = some ((), cS S i' (-1) (wl r m c) (m + c.length))
def ddC (n : Nat) (S : zS) (g : zS → Option (Unit × zS)) : Prop := ∀ x i' r' m', x ≤ n → i' ≤ n → m' ≤ 202 → ∃ i'' r'' m'', i'' ≤ n ∧ m'' ≤ 202 ∧ g (cS S i' (Int32.ofNat x) r' m') = some ((), cS S i'' (Int32.ofNat x) r'' m'')
theorem okC_l {x i' m' : Nat} {r' : Nat → Int32} {o : Option (Unit × zS)} (hx : x ≤ n) (hi : i' ≤ n) (hm : m' ≤ 202) (ho : o = some ((), cS S i' (Int32.ofNat x) r' m')) : okC n S r m (.inl x) o :=
  ⟨fun y h => by cases h; exact ⟨hx, i', r', m', hi, hm, ho⟩, fun _ _ h => by cases h⟩
theorem okC_r {i' : Nat} {c : List Int32} {o : Option (Unit × zS)} (ho : o = some ((), cS S i' (-1) (wl r m c) (m + c.length))) : okC n S r m (.inr (i', c)) o :=
  ⟨fun y h => (by cases h), fun _ _ h => by cases h; exact ho⟩
theorem okC_b {r2 : Nat → Int32} {m2 : Nat} {mm : zPR} {o : Option (Unit × zS)} {F : Nat → List Int32 → zPR} {g : zS → Option (Unit × zS)} (h : okC n S r m mm o) (hl : ∀ i' c, mm = .inr (i', c) → okC n S r2 m2 (F i' c) (g (cS S i' (-1) (wl r m c) (m + c.length)))) (hd : ddC n S g) : okC n S r2 m2 (pB mm F) (zb o fun _ S' => g S') := by
  cases mm with
  | inl x =>
    obtain ⟨hx, i', r', m', h1, h2, ho⟩ := h.1 x rfl
    obtain ⟨i'', r'', m'', p1, p2, p3⟩ := hd x i' r' m' hx h1 h2
    rw [ho, zbE]
    exact okC_l hx p1 p2 p3
  | inr q =>
    obtain ⟨i', c⟩ := q
    rw [h.2 i' c rfl, zbE]
    exact hl i' c rfl
theorem ddC_b {g1 g2 : zS → Option (Unit × zS)} (h1 : ddC n S g1) (h2 : ddC n S g2) : ddC n S (fun S' => zb (g1 S') fun _ S2 => g2 S2) := by
  intro x i' r' m' hx hi hm
  obtain ⟨i2, r2, m2, a1, a2, a3⟩ := h1 x i' r' m' hx hi hm
  obtain ⟨i3, r3, m3, b1, b2, b3⟩ := h2 x i2 r2 m2 hx a1 a2
  refine ⟨i3, r3, m3, b1, b2, ?_⟩
  show zb (g1 (cS S i' (Int32.ofNat x) r' m')) _ = _
  rw [a3, zbE, b3]
theorem ddC_s : ddC n S (fun S' => some ((), S')) := fun _ i' r' m' _ hi hm => ⟨i', r', m', hi, hm, rfl⟩
theorem ddC_put (x : Int32) : ddC n S (f_X5_put x) := by
  intro y i' r' m' hy hi hm
  by_cases h : m' < 202
  · exact ⟨i', _, m' + 1, hi, by omega, c_put x h⟩
  · refine ⟨i', r', m', hi, hm, ?_⟩
    unfold f_X5_put cS
    rw [tS_b (by decide), lS_7, if_pos (show (202 : Int32) ≤ _ from (io_le (a := 202) (by omega) (by omega)).mpr (by omega))]
theorem ddC_needs (T : CTx S b n) (n2 : n ≤ 200) {x : Int32} (hx : x ≠ 0) : ddC n S (f_X9_needs x) := by
  intro y i' r' m' hy hi hm
  exact ⟨sk b n i', r', m', sk_le hi, hm, c_needs0 (lS_T T) n2 hi (by omega) hx⟩
theorem cS_up : sV (cS S i f r m) 1 2 ((cS S i f r m).1 1 2 + 1) = cS S (i + 1) f r m := tS_up
theorem c_nd (T : CTx S b n) (n2 : n ≤ 200) (hi : i ≤ n) (x : Int32) (c : List Int32) (hm : m + c.length ≤ 202) : okC n S r m (pNeed b n x i c) (f_X9_needs x (cS S i (-1) (wl r m c) (m + c.length))) := by
  unfold pNeed cS
  rw [c_needs1 (lS_T T) n2 hi]
  by_cases q : pk b n i = x
  · rw [if_pos q, if_pos q]
    exact okC_r rfl
  · rw [if_neg q, if_neg q]
    exact okC_l (sk_le hi) (sk_le hi) hm rfl
theorem ddC_atom (T : CTx S b n) (n2 : n ≤ 200) (hub : Int32 → zS → Option (Unit × zS)) (v1 : Int32) : ddC n S (f_X5_readAtom_o hub v1) := by
  intro y i' r' m' hy hi hm
  refine ⟨sk b n i', r', m', sk_le hi, hm, ?_⟩
  unfold f_X5_readAtom_o cS
  rw [c_sign0 (lS_T T) n2 hi (by omega), zbE]
  rw [show f_J0_indexOf_0f7a4_1000104 (((0 : Int32).toUInt32 % 65536).toInt32) (tS (lS S r' m') (sk b n i') (Int32.ofNat y)) = some (sx_4 0, _) from c_idx_4 (v := 0) (by decide) _, zbE, c_isDigit, zbE, if_neg (show ¬ ((48 : Int32) ≤ 0 ∧ (0 : Int32) ≤ 57) by decide), if_pos rfl, if_pos (show sx_4 0 < 0 by decide), if_pos (show ¬ (0 : Int32) = 91 by decide), c_fail0 (by omega), zbE]
theorem ddC_sign (T : CTx S b n) (n2 : n ≤ 200) {g : Int32 → zS → Option (Unit × zS)} (h : ddC n S (g 0)) : ddC n S (fun S' => zb (f_X9_sign S') g) := by
  intro y i' r' m' hy hi hm
  obtain ⟨i3, r3, m3, b1, b2, b3⟩ := h y (sk b n i') r' m' hy (sk_le hi) hm
  refine ⟨i3, r3, m3, b1, b2, ?_⟩
  show zb (f_X9_sign (tS (lS S r' m') i' (Int32.ofNat y))) g = _
  rw [c_sign0 (lS_T T) n2 hi (by omega), zbE]
  exact b3
theorem ddC_termL {hub : Int32 → zS → Option (Unit × zS)} {v1 x3 : Int32} {z : Nat} : ddC n S (f_X5_readTerm_o_L15 hub (fun (q24 : Int32) (q25 : Int32) (S23 : zS) => some ((), S23)) v1 (z + 1) 0 x3) := by
  intro y i' r' m' hy hi hm
  refine ⟨i', r', m', hi, hm, ?_⟩
  rw [f_X5_readTerm_o_L15, zlE, if_neg (show ¬ (0 : Int32) = 42 by decide), if_pos (show ¬ (0 : Int32) = 47 by decide), ite_self]
theorem ddC_sumL {hub : Int32 → zS → Option (Unit × zS)} {v1 x3 : Int32} {z : Nat} : ddC n S (f_X5_readSum_o_L15 hub (fun (q24 : Int32) (q25 : Int32) (S23 : zS) => some ((), S23)) v1 (z + 1) 0 x3) := by
  intro y i' r' m' hy hi hm
  refine ⟨i', r', m', hi, hm, ?_⟩
  rw [f_X5_readSum_o_L15, zlE, if_neg (show ¬ (0 : Int32) = 43 by decide), if_pos (show ¬ (0 : Int32) = 45 by decide), ite_self]
theorem ddC_term (T : CTx S b n) (n2 : n ≤ 200) (hub : Int32 → zS → Option (Unit × zS)) (v1 : Int32) : ddC n S (f_X5_readTerm_o hub v1) :=
  ddC_b (ddC_atom T n2 hub v1) (ddC_sign T n2 (g := fun r5 S4 => f_X5_readTerm_o_L15 hub (fun (q24 : Int32) (q25 : Int32) (S23 : zS) => some ((), S23)) v1 (4999 + 1) r5 0 S4) ddC_termL)
theorem ddC_sum (T : CTx S b n) (n2 : n ≤ 200) (hub : Int32 → zS → Option (Unit × zS)) (v1 : Int32) : ddC n S (f_X5_readSum_o hub v1) :=
  ddC_b (ddC_term T n2 hub v1) (ddC_sign T n2 (g := fun r5 S4 => f_X5_readSum_o_L15 hub (fun (q24 : Int32) (q25 : Int32) (S23 : zS) => some ((), S23)) v1 (4999 + 1) r5 0 S4) ddC_sumL)
theorem pk_v' (TB : TxB b n) (hi : i ≤ n) : ∃ v, v < 256 ∧ pk b n i = Int32.ofNat v := by
  obtain ⟨v, v1, v2, -⟩ := pk_v TB hi
  exact ⟨v, v1, v2⟩
theorem sx4_let : ∀ v, v < 256 → sx_4 v = match letR (Int32.ofNat v) with
    | some l => Int32.ofNat l
    | none => -1 := by decide +kernel
theorem c_enters1 {v : Nat} (hv : v < 6) : f_X5_enters (Int32.ofNat v) (cS S i f r m) = some (1, cS S (i + 1) f r m) := by
  unfold f_X5_enters
  rw [if_pos (show _ < (6 : Int32) from (io_lt (b := 6) (by omega) (by omega)).mpr hv), zlE, cS_up]
theorem c_enters0 {v : Nat} (hv : ¬ v < 6) (h6 : v ≤ 6) : f_X5_enters (Int32.ofNat v) (cS S i (-1) r m) = some (0, cS S i (Int32.ofNat i) r m) := by
  unfold f_X5_enters cS
  rw [if_neg (show ¬ Int32.ofNat v < 6 from fun q => hv ((io_lt (b := 6) (by omega) (by omega)).mp q)), c_fail1, zbE]
theorem c_atom (T : CTx S b n) (TB : TxB b n) {hub : Nat → Nat → zPR} {hubC : Int32 → zS → Option (Unit × zS)} {v : Nat} (hv : v ≤ 6) (hi : i ≤ n) (hm : m ≤ i) (hd : ∀ x, ddC n S (hubC x)) (hh : v < 6 → ∀ j r m, j ≤ n → m ≤ j → okC n S r m (hub (v + 1) j) (hubC (Int32.ofNat (v + 1)) (cS S j (-1) r m))) (hg : v < 6 → ∀ j, j ≤ n → gM n j (51 + 2 * v) PS (hub (v + 1) j)) :
    okC n S r m (pAtom b n hub v i) (f_X5_readAtom_o hubC (Int32.ofNat v) (cS S i (-1) r m)) := by
  have n2 := TB.1
  have s1 := sk_ge (b := b) hi
  have s2 := sk_le (b := b) hi
  obtain ⟨u, u1, u2⟩ := pk_v' TB hi
  unfold f_X5_readAtom_o
  rw [show f_X9_sign (cS S i (-1) r m) = some (pk b n i, cS S (sk b n i) (-1) r m) from c_sign1 (lS_T T) n2 hi, zbE]
  rw [show f_J0_indexOf_0f7a4_1000104 (((pk b n i).toUInt32 % 65536).toInt32) (cS S (sk b n i) (-1) r m) = some (sx_4 u, cS S (sk b n i) (-1) r m) by rw [u2]; exact c_idx_4 u1 _, zbE, c_isDigit, zbE, sx4_let u u1, ← u2]
  unfold pAtom
  by_cases q : 48 ≤ pk b n i ∧ pk b n i ≤ 57
  · have nm := c_number1 (lS_T (r := r) (m := m) T) n2 s2 (D := 4) (by decide) 0 9999 (by rw [pk_sk hi]; exact q)
    rw [sk_sk hi] at nm
    rw [if_pos q, if_pos q, if_neg (show ¬ (1 : Int32) = 0 by decide), show f_X9_number 4 0 9999 (cS S (sk b n i) (-1) r m) = _ from nm]
    have p2 := (pnum_i (b := b) 4 (sk b n i) 0 s2).2
    by_cases q3 : (pnum b n 4 (sk b n i) 0).1 < n ∧ 48 ≤ b (pnum b n 4 (sk b n i) 0).1 ∧ b (pnum b n 4 (sk b n i) 0).1 ≤ 57
    · rw [if_pos q3, if_pos q3, zbE]
      obtain ⟨i3, r3, m3, b1, b2, b3⟩ := ddC_put (n := n) (S := S) (2000 + (pnum b n 4 (sk b n i) 0).2) (pnum b n 4 (sk b n i) 0).1 (pnum b n 4 (sk b n i) 0).1 r m p2 p2 (by omega)
      refine okC_l p2 b1 b2 (r' := r3) ?_
      rw [show f_X5_put (2000 + (pnum b n 4 (sk b n i) 0).2) (tS (lS S r m) (pnum b n 4 (sk b n i) 0).1 (Int32.ofNat (pnum b n 4 (sk b n i) 0).1)) = _ from b3, zbE]
    · rw [if_neg q3, if_neg q3]
      obtain ⟨m', e1, e2⟩ := pnum_v TB 4 (sk b n i) 0 (by decide)
      have e1' : (pnum b n 4 (sk b n i) 0).2 = Int32.ofNat m' := e1
      rw [e1', if_neg (fun h => ?_), zbE]
      · rw [show f_X5_put (2000 + Int32.ofNat m') (tS (lS S r m) (pnum b n 4 (sk b n i) 0).1 (-1)) = _ from c_put (S := S) (r := r) (2000 + Int32.ofNat m') (show m < 202 by omega), zbE]
        exact okC_r rfl
      · rcases h with h | h
        · rw [i_lt0, ti_nat (by omega)] at h
          omega
        · have := (io_lt (a := 9999) (by omega) (by omega)).mp h
          omega
  · rw [if_neg q, if_neg q, if_pos rfl]
    cases hl : letR (pk b n i) with
    | some l =>
      obtain ⟨l1, l2, -⟩ := letR_v hl
      rw [if_neg (show ¬ Int32.ofNat l < 0 from fun h => by rw [i_lt0, ti_nat (by omega)] at h; omega), zlE, cS_up, c_put (1000 + Int32.ofNat l) (show m < 202 by omega), zbE]
      exact okC_r rfl
    | none =>
      rw [if_pos (show (-1 : Int32) < 0 by decide)]
      show okC n S r m (if pk b n i = 91 then (if v < 6 then pB (hub (v + 1) (sk b n i + 1)) (fun i' c => pNeed b n 93 i' c) else .inl (sk b n i)) else .inl (sk b n i)) _
      by_cases q3 : pk b n i = 91
      · have lt : sk b n i < n := pkn_lt q3 (by decide)
        rw [if_pos q3, if_neg (nn q3)]
        by_cases q4 : v < 6
        · rw [if_pos q4, c_enters1 q4, zbE, if_neg (show ¬ (1 : Int32) = 0 by decide), io_sc]
          refine okC_b (hh q4 (sk b n i + 1) r m (by omega) (by omega)) (fun i' c hc => ?_) (ddC_b (ddC_needs T n2 (by decide)) ddC_s)
          obtain ⟨g1, g2, g3, -⟩ := hg q4 (sk b n i + 1) (by omega) i' c hc
          have K := c_nd (r := r) (m := m) T n2 g2 93 c (by omega)
          refine ⟨fun x hx => ?_, fun i2 c2 h2 => ?_⟩
          · obtain ⟨k1, i3, r3, m3, k2, k3, k4⟩ := K.1 x hx
            exact ⟨k1, i3, r3, m3, k2, k3, by rw [k4, zbE]⟩
          · rw [K.2 i2 c2 h2, zbE]
        · rw [if_neg q4, c_enters0 q4 hv, zbE, if_pos rfl]
          exact okC_l s2 s2 (by omega) rfl
      · rw [if_neg q3, if_pos q3]
        refine okC_l s2 s2 (show m ≤ 202 by omega) (r' := r) ?_
        unfold cS
        rw [c_fail1, zbE]
theorem c_termL (T : CTx S b n) (TB : TxB b n) {hub : Nat → Nat → zPR} {hubC : Int32 → zS → Option (Unit × zS)} {v : Nat} (hv : v ≤ 6) (hd : ∀ x, ddC n S (hubC x)) (hh : v < 6 → ∀ j r m, j ≤ n → m ≤ j → okC n S r m (hub (v + 1) j) (hubC (Int32.ofNat (v + 1)) (cS S j (-1) r m))) (hg : v < 6 → ∀ j, j ≤ n → gM n j (51 + 2 * v) PS (hub (v + 1) j)) :
    ∀ (k i x fu : Nat) (c : List Int32), i ≤ n → 201 ≤ i + k → x + k = 200 → k < fu → m + c.length ≤ i → okC n S r m (pTermL b n hub v k i c) (f_X5_readTerm_o_L15 hubC (fun (q24 : Int32) (q25 : Int32) (S23 : zS) => some ((), S23)) (Int32.ofNat v) fu (pk b n i) (Int32.ofNat x) (cS S (sk b n i) (-1) (wl r m c) (m + c.length)))
  | 0, i, x, fu, c, hi, hk, hx, hf, hm => by
    have n2 := TB.1
    omega
  | k + 1, i, x, fu, c, hi, hk, hx, hf, hm => by
    obtain ⟨z, rfl⟩ : ∃ z, fu = z + 1 := ⟨fu - 1, by omega⟩
    obtain ⟨z', rfl⟩ : ∃ z', z = z' + 1 := ⟨z - 1, by omega⟩
    have n2 := TB.1
    have s1 := sk_ge (b := b) hi
    have s2 := sk_le (b := b) hi
    rw [f_X5_readTerm_o_L15, if_neg (fun q => by have := (io_le (a := 200) (by omega) (by omega)).mp q; omega), pTermL]
    simp only [zlE, cS_up]
    have J : pk b n i = 42 ∨ pk b n i = 47 → okC n S r m (pB (pAtom b n hub v (sk b n i + 1)) fun i' c' => pTermL b n hub v k i' (c ++ c' ++ [pk b n i])) (zb (f_X5_readAtom_o hubC (Int32.ofNat v) (cS S (sk b n i + 1) (-1) (wl r m c) (m + c.length))) fun _ S12 => zb (f_X5_put (pk b n i) S12) fun _ S15 => zb (f_X9_sign S15) fun r19 S18 => f_X5_readTerm_o_L15 hubC (fun (q24 : Int32) (q25 : Int32) (S23 : zS) => some ((), S23)) (Int32.ofNat v) (z' + 1) r19 (Int32.ofNat x + 1) S18) := by
      intro q
      have lt : sk b n i < n := by
        rcases q with q | q
        · exact pkn_lt q (by decide)
        · exact pkn_lt q (by decide)
      refine okC_b (c_atom T TB hv (show sk b n i + 1 ≤ n by omega) (by omega) hd hh hg) (fun i1 c1 h1 => ?_) (ddC_b (ddC_put _) (ddC_sign T n2 ddC_termL))
      obtain ⟨g1, g2, g3, g4, g5⟩ := pAtom_g TB hv (show sk b n i + 1 ≤ n by omega) hg i1 c1 h1
      rw [wl_app, c_put (pk b n i) (show m + c.length + c1.length < 202 by omega), zbE]
      have e1 : wl (wl r m (c ++ c1)) (m + c.length + c1.length) [pk b n i] = wl r m (c ++ c1 ++ [pk b n i]) := by
        rw [show m + c.length + c1.length = m + (c ++ c1).length by rw [List.length_append]; omega, wl_app]
      have e2 : m + c.length + c1.length + 1 = m + (c ++ c1 ++ [pk b n i]).length := by
        rw [List.length_append, List.length_append]
        show _ = m + (c.length + c1.length + 1)
        omega
      rw [e1, e2, show f_X9_sign (cS S i1 (-1) (wl r m (c ++ c1 ++ [pk b n i])) (m + (c ++ c1 ++ [pk b n i]).length)) = some (pk b n i1, cS S (sk b n i1) (-1) (wl r m (c ++ c1 ++ [pk b n i])) (m + (c ++ c1 ++ [pk b n i]).length)) from c_sign1 (lS_T T) n2 g2, zbE, io_sc]
      exact c_termL T TB hv hd hh hg k i1 (x + 1) (z' + 1) _ g2 (by omega) (by omega) (by omega) (by omega)
    by_cases q1 : pk b n i = 42
    · rw [if_pos (Or.inl q1), if_pos q1]
      exact J (Or.inl q1)
    · rw [if_neg q1]
      by_cases q2 : pk b n i = 47
      · rw [if_pos (Or.inr q2), if_neg (nn q2)]
        exact J (Or.inr q2)
      · rw [if_pos q2, if_neg (fun h => h.elim q1 q2)]
        exact okC_r rfl
theorem c_term (T : CTx S b n) (TB : TxB b n) {hub : Nat → Nat → zPR} {hubC : Int32 → zS → Option (Unit × zS)} {v : Nat} (hv : v ≤ 6) (hi : i ≤ n) (hm : m ≤ i) (hd : ∀ x, ddC n S (hubC x)) (hh : v < 6 → ∀ j r m, j ≤ n → m ≤ j → okC n S r m (hub (v + 1) j) (hubC (Int32.ofNat (v + 1)) (cS S j (-1) r m))) (hg : v < 6 → ∀ j, j ≤ n → gM n j (51 + 2 * v) PS (hub (v + 1) j)) :
    okC n S r m (pTerm b n hub v i) (f_X5_readTerm_o hubC (Int32.ofNat v) (cS S i (-1) r m)) := by
  have n2 := TB.1
  unfold pTerm f_X5_readTerm_o
  refine okC_b (c_atom T TB hv hi hm hd hh hg) (fun i1 c1 h1 => ?_) (ddC_sign T n2 (g := fun r5 S4 => f_X5_readTerm_o_L15 hubC (fun (q24 : Int32) (q25 : Int32) (S23 : zS) => some ((), S23)) (Int32.ofNat v) (4999 + 1) r5 0 S4) ddC_termL)
  obtain ⟨g1, g2, g3, g4, g5⟩ := pAtom_g TB hv hi hg i1 c1 h1
  rw [show f_X9_sign (cS S i1 (-1) (wl r m c1) (m + c1.length)) = some (pk b n i1, cS S (sk b n i1) (-1) (wl r m c1) (m + c1.length)) from c_sign1 (lS_T T) n2 g2, zbE]
  exact c_termL T TB hv hd hh hg 200 i1 0 zN c1 g2 (by omega) (by omega) (by unfold zN; omega) (by omega)
theorem c_sumL (T : CTx S b n) (TB : TxB b n) {hub : Nat → Nat → zPR} {hubC : Int32 → zS → Option (Unit × zS)} {v : Nat} (hv : v ≤ 6) (hd : ∀ x, ddC n S (hubC x)) (hh : v < 6 → ∀ j r m, j ≤ n → m ≤ j → okC n S r m (hub (v + 1) j) (hubC (Int32.ofNat (v + 1)) (cS S j (-1) r m))) (hg : v < 6 → ∀ j, j ≤ n → gM n j (51 + 2 * v) PS (hub (v + 1) j)) :
    ∀ (k i x fu : Nat) (c : List Int32), i ≤ n → 201 ≤ i + k → x + k = 200 → k < fu → m + c.length ≤ i → okC n S r m (pSumL b n hub v k i c) (f_X5_readSum_o_L15 hubC (fun (q24 : Int32) (q25 : Int32) (S23 : zS) => some ((), S23)) (Int32.ofNat v) fu (pk b n i) (Int32.ofNat x) (cS S (sk b n i) (-1) (wl r m c) (m + c.length)))
  | 0, i, x, fu, c, hi, hk, hx, hf, hm => by
    have n2 := TB.1
    omega
  | k + 1, i, x, fu, c, hi, hk, hx, hf, hm => by
    obtain ⟨z, rfl⟩ : ∃ z, fu = z + 1 := ⟨fu - 1, by omega⟩
    obtain ⟨z', rfl⟩ : ∃ z', z = z' + 1 := ⟨z - 1, by omega⟩
    have n2 := TB.1
    have s1 := sk_ge (b := b) hi
    have s2 := sk_le (b := b) hi
    rw [f_X5_readSum_o_L15, if_neg (fun q => by have := (io_le (a := 200) (by omega) (by omega)).mp q; omega), pSumL]
    simp only [zlE, cS_up]
    have J : pk b n i = 43 ∨ pk b n i = 45 → okC n S r m (pB (pTerm b n hub v (sk b n i + 1)) fun i' c' => pSumL b n hub v k i' (c ++ c' ++ [pk b n i])) (zb (f_X5_readTerm_o hubC (Int32.ofNat v) (cS S (sk b n i + 1) (-1) (wl r m c) (m + c.length))) fun _ S12 => zb (f_X5_put (pk b n i) S12) fun _ S15 => zb (f_X9_sign S15) fun r19 S18 => f_X5_readSum_o_L15 hubC (fun (q24 : Int32) (q25 : Int32) (S23 : zS) => some ((), S23)) (Int32.ofNat v) (z' + 1) r19 (Int32.ofNat x + 1) S18) := by
      intro q
      have lt : sk b n i < n := by
        rcases q with q | q
        · exact pkn_lt q (by decide)
        · exact pkn_lt q (by decide)
      refine okC_b (c_term T TB hv (show sk b n i + 1 ≤ n by omega) (by omega) hd hh hg) (fun i1 c1 h1 => ?_) (ddC_b (ddC_put _) (ddC_sign T n2 ddC_sumL))
      obtain ⟨g1, g2, g3, g4, g5⟩ := pTerm_g TB hv (show sk b n i + 1 ≤ n by omega) hg i1 c1 h1
      rw [wl_app, c_put (pk b n i) (show m + c.length + c1.length < 202 by omega), zbE]
      have e1 : wl (wl r m (c ++ c1)) (m + c.length + c1.length) [pk b n i] = wl r m (c ++ c1 ++ [pk b n i]) := by
        rw [show m + c.length + c1.length = m + (c ++ c1).length by rw [List.length_append]; omega, wl_app]
      have e2 : m + c.length + c1.length + 1 = m + (c ++ c1 ++ [pk b n i]).length := by
        rw [List.length_append, List.length_append]
        show _ = m + (c.length + c1.length + 1)
        omega
      rw [e1, e2, show f_X9_sign (cS S i1 (-1) (wl r m (c ++ c1 ++ [pk b n i])) (m + (c ++ c1 ++ [pk b n i]).length)) = some (pk b n i1, cS S (sk b n i1) (-1) (wl r m (c ++ c1 ++ [pk b n i])) (m + (c ++ c1 ++ [pk b n i]).length)) from c_sign1 (lS_T T) n2 g2, zbE, io_sc]
      exact c_sumL T TB hv hd hh hg k i1 (x + 1) (z' + 1) _ g2 (by omega) (by omega) (by omega) (by omega)
    by_cases q1 : pk b n i = 43
    · rw [if_pos (Or.inl q1), if_pos q1]
      exact J (Or.inl q1)
    · rw [if_neg q1]
      by_cases q2 : pk b n i = 45
      · rw [if_pos (Or.inr q2), if_neg (nn q2)]
        exact J (Or.inr q2)
      · rw [if_pos q2, if_neg (fun h => h.elim q1 q2)]
        exact okC_r rfl
theorem c_sumO (T : CTx S b n) (TB : TxB b n) {hub : Nat → Nat → zPR} {hubC : Int32 → zS → Option (Unit × zS)} {v : Nat} (hv : v ≤ 6) (hi : i ≤ n) (hm : m ≤ i) (hd : ∀ x, ddC n S (hubC x)) (hh : v < 6 → ∀ j r m, j ≤ n → m ≤ j → okC n S r m (hub (v + 1) j) (hubC (Int32.ofNat (v + 1)) (cS S j (-1) r m))) (hg : v < 6 → ∀ j, j ≤ n → gM n j (51 + 2 * v) PS (hub (v + 1) j)) :
    okC n S r m (pSumO b n hub v i) (f_X5_readSum_o hubC (Int32.ofNat v) (cS S i (-1) r m)) := by
  have n2 := TB.1
  unfold pSumO f_X5_readSum_o
  refine okC_b (c_term T TB hv hi hm hd hh hg) (fun i1 c1 h1 => ?_) (ddC_sign T n2 (g := fun r5 S4 => f_X5_readSum_o_L15 hubC (fun (q24 : Int32) (q25 : Int32) (S23 : zS) => some ((), S23)) (Int32.ofNat v) (4999 + 1) r5 0 S4) ddC_sumL)
  obtain ⟨g1, g2, g3, g4, g5⟩ := pTerm_g TB hv hi hg i1 c1 h1
  rw [show f_X9_sign (cS S i1 (-1) (wl r m c1) (m + c1.length)) = some (pk b n i1, cS S (sk b n i1) (-1) (wl r m c1) (m + c1.length)) from c_sign1 (lS_T T) n2 g2, zbE]
  exact c_sumL T TB hv hd hh hg 200 i1 0 zN c1 g2 (by omega) (by omega) (by unfold zN; omega) (by omega)
theorem ddC_sumG (T : CTx S b n) (n2 : n ≤ 200) : ∀ (g : Nat) (x : Int32), 0 < g → ddC n S (f_X5_readSum_g g x)
  | 0, x, h => absurd h (by omega)
  | g + 1, x, _ => ddC_sum T n2 (f_X5_readSum_g g) x
theorem c_sumG (T : CTx S b n) (TB : TxB b n) : ∀ (g v i : Nat) (r : Nat → Int32) (m : Nat), 8 ≤ g + v → v ≤ 6 → i ≤ n → m ≤ i → okC n S r m (pSumG b n g v i) (f_X5_readSum_g g (Int32.ofNat v) (cS S i (-1) r m))
  | 0, v, i, r, m, h1, h2, _, _ => by omega
  | g + 1, v, i, r, m, h1, hv, hi, hm => c_sumO T TB hv hi hm (fun x => ddC_sumG T TB.1 g x (by omega)) (fun h6 j r m hj hm => c_sumG T TB g (v + 1) j r m (by omega) (by omega) hj hm) (fun h6 j hj => by
      have := pSumG_g TB g (v + 1) j (by omega) hj
      rw [show 49 + 2 * (v + 1) = 51 + 2 * v by omega] at this
      exact this)
theorem c_sum (T : CTx S b n) (TB : TxB b n) {v : Nat} (hv : v ≤ 6) (hi : i ≤ n) (hm : m ≤ i) : okC n S r m (pSum b n v i) (f_X5_readSum (Int32.ofNat v) (cS S i (-1) r m)) := c_sumG T TB 17 v i r m (by omega) hv hi hm
theorem ddC_rsum (T : CTx S b n) (n2 : n ≤ 200) (x : Int32) : ddC n S (f_X5_readSum x) := ddC_sum T n2 (f_X5_readSum_g 16) x
end PB
