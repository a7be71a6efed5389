/-! Orders of hands: a model, and the class. -/
section NE
variable {d M nj nh nt : Nat} {A B : zS}
theorem bt_tab : ∀ m : Fin 64, ∀ h : Fin 6, ((Int32.ofNat m.1 >>> (Int32.ofNat h.1 &&& 31)) &&& 1) = (if m.1.testBit h.1 then 1 else 0) ∧ Int32.ofNat m.1 ||| (1 <<< (Int32.ofNat h.1 &&& 31)) = Int32.ofNat (m.1 ||| 2 ^ h.1) ∧ m.1 ||| 2 ^ h.1 < 64 := by decide +kernel
theorem bt_1 {m h : Nat} (hm : m < 64) (hh : h < 6) : ((Int32.ofNat m >>> (Int32.ofNat h &&& 31)) &&& 1) = if m.testBit h then 1 else 0 := (bt_tab ⟨m, hm⟩ ⟨h, hh⟩).1
theorem bt_2 {m h : Nat} (hm : m < 64) (hh : h < 6) : Int32.ofNat m ||| (1 <<< (Int32.ofNat h &&& 31)) = Int32.ofNat (m ||| 2 ^ h) := (bt_tab ⟨m, hm⟩ ⟨h, hh⟩).2.1
theorem bt_3 {m h : Nat} (hm : m < 64) (hh : h < 6) : m ||| 2 ^ h < 64 := (bt_tab ⟨m, hm⟩ ⟨h, hh⟩).2.2
theorem bt_at (m h : Nat) : (m ||| 2 ^ h).testBit h = true := by
  rw [Nat.testBit_or, Nat.testBit_two_pow]
  simp
theorem bt_ne {m h i : Nat} (hi : i ≠ h) : (m ||| 2 ^ h).testBit i = m.testBit i := by
  rw [Nat.testBit_or, Nat.testBit_two_pow]
  simp [Ne.symm hi]
def un (m : Nat) : Nat → Nat → Nat
  | 0, _ => 0
  | k + 1, h => (if m.testBit h then 0 else 1) + un m k (h + 1)
theorem un_cg {m m' : Nat} : ∀ k h, (∀ i, h ≤ i → i < h + k → m.testBit i = m'.testBit i) → un m k h = un m' k h
  | 0, _, _ => rfl
  | k + 1, h, H => by
    unfold un
    rw [H h (by omega) (by omega), un_cg k (h + 1) (fun i h1 h2 => H i (by omega) (by omega))]
theorem un_set {m i : Nat} (hi : m.testBit i = false) : ∀ k h, h ≤ i → i < h + k → un (m ||| 2 ^ i) k h + 1 = un m k h
  | 0, _, h1, h2 => absurd h2 (by omega)
  | k + 1, h, h1, h2 => by
    unfold un
    by_cases hh : i = h
    · subst hh
      rw [bt_at, hi, un_cg (m := m ||| 2 ^ i) (m' := m) k (i + 1) (fun x h3 h4 => bt_ne (by omega))]
      simp
      omega
    · rw [bt_ne (Ne.symm hh)]
      have := un_set hi k (h + 1) (by omega) (by omega)
      omega
def fillM (m : Nat) : Nat → Nat → Nat → Nat
  | 0, _, ln => ln
  | k + 1, h, ln => if m.testBit h then fillM m k (h + 1) ln else fillM m k (h + 1) (ln * 10 + h)
theorem fill_cg {m m' : Nat} : ∀ k h ln, (∀ i, h ≤ i → i < h + k → m.testBit i = m'.testBit i) → fillM m k h ln = fillM m' k h ln
  | 0, _, _, _ => rfl
  | k + 1, h, ln, H => by
    unfold fillM
    rw [H h (by omega) (by omega), fill_cg k (h + 1) ln (fun i h1 h2 => H i (by omega) (by omega)), fill_cg k (h + 1) (ln * 10 + h) (fun i h1 h2 => H i (by omega) (by omega))]
theorem fill_lt {m : Nat} : ∀ k h c ln, ln < 10 ^ c → h + k ≤ 10 → fillM m k h ln < 10 ^ (c + un m k h)
  | 0, h, c, ln, h1, _ => h1
  | k + 1, h, c, ln, h1, h2 => by
    unfold fillM un
    by_cases hb : m.testBit h = true
    · rw [if_pos hb, if_pos hb, Nat.zero_add]
      exact fill_lt k (h + 1) c ln h1 (by omega)
    · rw [if_neg hb, if_neg hb, ← Nat.add_assoc]
      refine fill_lt k (h + 1) (c + 1) (ln * 10 + h) ?_ (by omega)
      rw [Nat.pow_succ]
      omega
theorem fill_un {m : Nat} : ∀ k h ln, un m k h = 0 → fillM m k h ln = ln
  | 0, _, _, _ => rfl
  | k + 1, h, ln, h1 => by
    unfold un at h1
    unfold fillM
    by_cases hb : m.testBit h = true
    · rw [if_pos hb] at h1 ⊢
      exact fill_un k (h + 1) ln (by omega)
    · rw [if_neg hb] at h1
      omega
theorem io_dig (a h : Nat) : Int32.ofNat a * 10 + Int32.ofNat h = Int32.ofNat (a * 10 + h) := by
  rw [Int32.ofNat_add, Int32.ofNat_mul]
  rfl
theorem c_filled {g : Nat → Int32} {stuck rest : Int32} (hC : Crw nh g stuck rest A) (n6 : nh ≤ 6) {m : Nat} (hm : m < 64) (ln : Nat) : f_X0_filled (Int32.ofNat ln) (Int32.ofNat m) A = some (Int32.ofNat (fillM m nh 0 ln), A) := by
  have L : ∀ (k h f ln : Nat) (v1 : Int32), h + k = nh → k < f → f_X0_filled_L5 (fun (q8 : Int32) (q9 : Int32) (S7 : zS) => some (q8, S7)) v1 (Int32.ofNat m) f (Int32.ofNat ln) (Int32.ofNat h) A = some (Int32.ofNat (fillM m k h ln), A) := by
    intro k
    induction k with
    | zero =>
      intro h f ln v1 hi hf
      obtain ⟨f, rfl⟩ : ∃ g, f = g + 1 := ⟨f - 1, by omega⟩
      have hi : h = nh := by omega
      subst hi
      unfold f_X0_filled_L5
      rw [hC.1, if_pos (Int32.le_refl _)]
      rfl
    | succ k ih =>
      intro h f ln v1 hi hf
      obtain ⟨f, rfl⟩ : ∃ g, f = g + 1 := ⟨f - 1, by omega⟩
      have hlt : ¬ Int32.ofNat nh ≤ Int32.ofNat h := fun q => by have := (io_le (by omega) (by omega)).mp q; omega
      unfold f_X0_filled_L5 fillM
      rw [hC.1, if_neg hlt, bt_1 hm (by omega)]
      simp only [zlE, io_sc, io_dig]
      by_cases hb : m.testBit h = true
      · rw [if_pos hb, if_pos hb, if_pos n10]
        exact ih (h + 1) f ln v1 (by omega) (by omega)
      · rw [if_neg hb, if_neg hb, if_neg n00]
        exact ih (h + 1) f _ v1 (by omega) (by omega)
  unfold f_X0_filled
  exact L nh 0 zN ln _ (by omega) (by unfold zN; omega)
def ordL (f : Nat → Option Nat) : Nat → Nat → Option Nat
  | 0, _ => none
  | k + 1, h => match f h with
    | some w => some w
    | none => ordL f k (h + 1)
def ordM (g : Nat → Int32) (rest : Int32) (nh : Nat) : Nat → Nat → Int32 → Nat → Option Nat
  | 0, _, _, _ => none
  | n + 1, m, l, ln => ordL (fun h => if m.testBit h then none else if n = 0 then (if g h < rest + l then none else some (fillM (m ||| 2 ^ h) nh 0 (ln * 10 + h))) else ordM g rest nh n (m ||| 2 ^ h) (m0 (l - g h / 10)) (ln * 10 + h)) nh 0
theorem ordL_ex {f : Nat → Option Nat} {w : Nat} : ∀ k h, ordL f k h = some w → ∃ i, h ≤ i ∧ i < h + k ∧ f i = some w
  | 0, _, H => by cases H
  | k + 1, h, H => by
    unfold ordL at H
    cases hf : f h with
    | some x => rw [hf] at H; cases H; exact ⟨h, by omega, by omega, hf⟩
    | none =>
      rw [hf] at H
      obtain ⟨i, h1, h2, h3⟩ := ordL_ex k (h + 1) H
      exact ⟨i, by omega, by omega, h3⟩
theorem ord_lt {g : Nat → Int32} {rest : Int32} (n6 : nh ≤ 6) : ∀ n m l ln c w, ordM g rest nh n m l ln = some w → ln < 10 ^ c → c + un m nh 0 ≤ 6 → w < 1000000
  | 0, _, _, _, _, _, H, _, _ => by cases H
  | n + 1, m, l, ln, c, w, H, h1, h2 => by
    unfold ordM at H
    obtain ⟨i, i1, i2, H⟩ := ordL_ex _ _ H
    by_cases hb : m.testBit i = true
    · rw [if_pos hb] at H; cases H
    · rw [if_neg hb] at H
      have hu := un_set (m := m) (i := i) (by cases hz : m.testBit i with | false => rfl | true => exact absurd hz hb) nh 0 (by omega) i2
      have hl : ln * 10 + i < 10 ^ (c + 1) := by rw [Nat.pow_succ]; omega
      by_cases hn : n = 0
      · rw [if_pos hn] at H
        by_cases hg : g i < rest + l
        · rw [if_pos hg] at H; cases H
        · rw [if_neg hg] at H
          cases H
          have := fill_lt (m := m ||| 2 ^ i) nh 0 (c + 1) (ln * 10 + i) hl (by omega)
          have := Nat.pow_le_pow_right (n := 10) (by omega) (show c + 1 + un (m ||| 2 ^ i) nh 0 ≤ 6 by omega)
          omega
      · rw [if_neg hn] at H
        exact ord_lt n6 n _ _ _ (c + 1) w H hl (by omega)
def oV (o : Option Nat) : Int32 := match o with
  | none => -1
  | some w => Int32.ofNat w
theorem c_ordg {g : Nat → Int32} {stuck rest : Int32} (hC : Crw nh g stuck rest A) (n6 : nh ≤ 6) : ∀ (n G m : Nat) (l : Int32) (ln c : Nat), n + 1 ≤ G → n < 10 → m < 64 → ln < 10 ^ c → c + un m nh 0 ≤ 6 → f_X0_orderOf_g G (Int32.ofNat (n + 1)) (Int32.ofNat m) l (Int32.ofNat ln) A = some (oV (ordM g rest nh (n + 1) m l ln), A) := by
  obtain ⟨c1, c2, c3, c4⟩ := hC
  have hC' : Crw nh g stuck rest A := ⟨c1, c2, c3, c4⟩
  intro n
  induction n with
  | zero =>
    intro G m l ln c hG hn10 hm hln hc
    obtain ⟨G, rfl⟩ : ∃ g, G = g + 1 := ⟨G - 1, by omega⟩
    show f_X0_orderOf_o (f_X0_orderOf_g G) _ _ _ _ _ = _
    unfold f_X0_orderOf_o ordM
    have L : ∀ (k h f : Nat), h + k = nh → k < f → f_X0_orderOf_o_L3 (f_X0_orderOf_g G) (fun (q24 : Int32) (S23 : zS) => some ((-1), S23)) (Int32.ofNat (0 + 1)) (Int32.ofNat m) l (Int32.ofNat ln) f (Int32.ofNat h) A = some (oV (ordL (fun h => if m.testBit h then none else if 0 = 0 then (if g h < rest + l then none else some (fillM (m ||| 2 ^ h) nh 0 (ln * 10 + h))) else ordM g rest nh 0 (m ||| 2 ^ h) (m0 (l - g h / 10)) (ln * 10 + h)) k h), A) := by
      intro k
      induction k with
      | zero =>
        intro h f hi hf
        obtain ⟨f, rfl⟩ : ∃ g, f = g + 1 := ⟨f - 1, by omega⟩
        have hi : h = nh := by omega
        subst hi
        unfold f_X0_orderOf_o_L3
        rw [c1, if_pos (Int32.le_refl _)]
        rfl
      | succ k ihk =>
        intro h f hi hf
        obtain ⟨f, rfl⟩ : ∃ g, f = g + 1 := ⟨f - 1, by omega⟩
        have hlt : ¬ Int32.ofNat nh ≤ Int32.ofNat h := fun q => by have := (io_le (by omega) (by omega)).mp q; omega
        have le1 : Int32.ofNat (0 + 1) ≤ 1 := by decide
        have n01 : ¬ (0 : Int32) = 1 := by decide
        unfold f_X0_orderOf_o_L3 ordL
        rw [c1, if_neg hlt, bt_1 hm (by omega)]
        simp (disch := omega) only [zlE, io_sc, io_dig, bt_2, io_in, io_cl, if_true, c4 h (by omega), c3, if_pos le1]
        by_cases hb : m.testBit h = true
        · rw [if_pos hb, if_pos hb, if_neg (fun q => q rfl)]
          exact ihk (h + 1) f (by omega) (by omega)
        · rw [if_neg hb, if_neg hb, if_pos n01]
          by_cases hg : g h < rest + l
          · rw [if_pos hg, if_pos hg]
            exact ihk (h + 1) f (by omega) (by omega)
          · rw [if_neg hg, if_neg hg, c_filled hC' n6 (bt_3 hm (by omega)), zbE]
            have hu := un_set (m := m) (i := h) (by cases hz : m.testBit h with | false => rfl | true => exact absurd hz hb) nh 0 (by omega) (by omega)
            have hl : ln * 10 + h < 10 ^ (c + 1) := by rw [Nat.pow_succ]; omega
            have := fill_lt (m := m ||| 2 ^ h) nh 0 (c + 1) (ln * 10 + h) hl (by omega)
            have := Nat.pow_le_pow_right (n := 10) (by omega) (show c + 1 + un (m ||| 2 ^ h) nh 0 ≤ 6 by omega)
            rw [if_neg (io_ne1 (by omega))]
            rfl
    exact L nh 0 zN (by omega) (by unfold zN; omega)
  | succ n ih =>
    intro G m l ln c hG hn10 hm hln hc
    obtain ⟨G, rfl⟩ : ∃ g, G = g + 1 := ⟨G - 1, by omega⟩
    show f_X0_orderOf_o (f_X0_orderOf_g G) _ _ _ _ _ = _
    unfold f_X0_orderOf_o
    rw [ordM]
    have L : ∀ (k h f : Nat), h + k = nh → k < f → f_X0_orderOf_o_L3 (f_X0_orderOf_g G) (fun (q24 : Int32) (S23 : zS) => some ((-1), S23)) (Int32.ofNat (n + 1 + 1)) (Int32.ofNat m) l (Int32.ofNat ln) f (Int32.ofNat h) A = some (oV (ordL (fun h => if m.testBit h then none else if n + 1 = 0 then (if g h < rest + l then none else some (fillM (m ||| 2 ^ h) nh 0 (ln * 10 + h))) else ordM g rest nh (n + 1) (m ||| 2 ^ h) (m0 (l - g h / 10)) (ln * 10 + h)) k h), A) := by
      intro k
      induction k with
      | zero =>
        intro h f hi hf
        obtain ⟨f, rfl⟩ : ∃ g, f = g + 1 := ⟨f - 1, by omega⟩
        have hi : h = nh := by omega
        subst hi
        unfold f_X0_orderOf_o_L3
        rw [c1, if_pos (Int32.le_refl _)]
        rfl
      | succ k ihk =>
        intro h f hi hf
        obtain ⟨f, rfl⟩ : ∃ g, f = g + 1 := ⟨f - 1, by omega⟩
        have hlt : ¬ Int32.ofNat nh ≤ Int32.ofNat h := fun q => by have := (io_le (by omega) (by omega)).mp q; omega
        have le1 : ¬ Int32.ofNat (n + 1 + 1) ≤ 1 := fun q => by have := (io_le (b := 1) (by omega) (by omega)).mp q; omega
        have n01 : ¬ (0 : Int32) = 1 := by decide
        have em : Int32.ofNat (n + 1 + 1) - 1 = Int32.ofNat (n + 1) := by rw [io_m1 (by omega)]; rfl
        unfold f_X0_orderOf_o_L3 ordL f_X0_stuckBehind
        rw [c1, if_neg hlt, bt_1 hm (by omega)]
        simp (disch := omega) only [zlE, zbE, io_sc, io_dig, bt_2, io_in, io_cl, if_true, c4 h (by omega), c3, if_neg le1, em]
        by_cases hb : m.testBit h = true
        · rw [if_pos hb, if_pos hb, if_neg (fun q => q rfl)]
          exact ihk (h + 1) f (by omega) (by omega)
        · rw [if_neg hb, if_neg hb, if_pos n01, if_neg (show ¬ n + 1 = 0 by omega)]
          have hu := un_set (m := m) (i := h) (by cases hz : m.testBit h with | false => rfl | true => exact absurd hz hb) nh 0 (by omega) (by omega)
          have hl : ln * 10 + h < 10 ^ (c + 1) := by rw [Nat.pow_succ]; omega
          have e := ih G (m ||| 2 ^ h) (m0 (l - g h / 10)) (ln * 10 + h) (c + 1) (by omega) (by omega) (bt_3 hm (by omega)) hl (by omega)
          have e' : f_X0_orderOf_g G (Int32.ofNat (n + 1)) (Int32.ofNat (m ||| 2 ^ h)) (if 0 < l - g h / 10 then l - g h / 10 else 0) (Int32.ofNat (ln * 10 + h)) A = _ := e
          rw [e', zbE]
          cases ho : ordM g rest nh (n + 1) (m ||| 2 ^ h) (m0 (l - g h / 10)) (ln * 10 + h) with
          | none => exact ihk (h + 1) f (by omega) (by omega)
          | some w =>
            have := ord_lt n6 _ _ _ _ (c + 1) w ho hl (by omega)
            show (if Int32.ofNat w = -1 then _ else _) = _
            rw [if_neg (io_ne1 (by omega))]
    exact L nh 0 zN (by omega) (by unfold zN; omega)
def fstO (f : Nat → Option Nat) : Nat → Nat → Option (Nat × Nat)
  | 0, _ => none
  | k + 1, n => match f n with
    | some w => some (n, w)
    | none => fstO f k (n + 1)
def fndC (A : zS) (o : Option (Nat × Nat)) : Int32 × zS := match o with
  | none => (0, A)
  | some (n, w) => (1, sV (sV A 35 4 (Int32.ofNat w)) 35 5 (Int32.ofNat n))
theorem un_0 : ∀ k h, un 0 k h = k
  | 0, _ => rfl
  | k + 1, h => by
    unfold un
    rw [un_0 k (h + 1), Nat.zero_testBit]
    simp
    omega
theorem c_finds {g : Nat → Int32} {stuck rest : Int32} (hC : Crw nh g stuck rest A) (n6 : nh ≤ 6) : f_X0_findsOrder A = some (fndC A (fstO (fun n => ordM g rest nh n 0 stuck 0) nh 1)) := by
  obtain ⟨c1, c2, c3, c4⟩ := hC
  have hC' : Crw nh g stuck rest A := ⟨c1, c2, c3, c4⟩
  have L : ∀ (k n f : Nat), n + k = nh → k < f → f_X0_findsOrder_L2 (fun (q10 : Int32) (S9 : zS) => some (0, S9)) f (Int32.ofNat (n + 1)) A = some (fndC A (fstO (fun n => ordM g rest nh n 0 stuck 0) k (n + 1))) := by
    intro k
    induction k with
    | zero =>
      intro n f hi hf
      obtain ⟨f, rfl⟩ : ∃ g, f = g + 1 := ⟨f - 1, by omega⟩
      have q : Int32.ofNat nh < Int32.ofNat (n + 1) := (io_lt (by omega) (by omega)).mpr (by omega)
      unfold f_X0_findsOrder_L2
      rw [c1, if_pos q]
      rfl
    | succ k ih =>
      intro n f hi hf
      obtain ⟨f, rfl⟩ : ∃ g, f = g + 1 := ⟨f - 1, by omega⟩
      have q : ¬ Int32.ofNat nh < Int32.ofNat (n + 1) := fun q => by have := (io_lt (by omega) (by omega)).mp q; omega
      have e := c_ordg hC' n6 n 17 0 stuck 0 0 (by omega) (by omega) (by omega) (by decide) (by rw [un_0]; omega)
      have e' : f_X0_orderOf (Int32.ofNat (n + 1)) 0 stuck 0 A = _ := e
      unfold f_X0_findsOrder_L2 fstO
      rw [c1, if_neg q, c2, e', zbE]
      cases ho : ordM g rest nh (n + 1) 0 stuck 0 with
      | none =>
        show (if (-1 : Int32) = -1 then _ else _) = _
        rw [if_pos rfl, zlE, io_sc]
        exact ih (n + 1) f (by omega) (by omega)
      | some w =>
        have := ord_lt n6 _ _ _ _ 0 w ho (by decide) (by rw [un_0]; omega)
        show (if Int32.ofNat w = -1 then _ else _) = _
        rw [if_neg (io_ne1 (by omega)), zlE, zlE]
        rfl
  unfold f_X0_findsOrder
  exact L nh 0 zN (by omega) (by unfold zN; omega)
end NE
