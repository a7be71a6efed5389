/-! The reference reads a law. -/
section OC
variable {b : Nat → Int32} {n : Nat} {S : zS} {i : Nat} {f w : Int32}
theorem bytT : ∀ v, v < 256 → (vp_nar .byte (Int32.ofNat v)) &&& 255 = Int32.ofNat v ∧ (vp_nar .byte (Int32.ofNat v)).toInt = if v < 128 then (v : Int) else (v : Int) - 256 := by decide +kernel
theorem byteOk.and {x y : Int32} (h : byteOk x y) : y &&& 255 = x := by
  obtain ⟨v, v0, v1, rfl, rfl⟩ := h
  exact (bytT v v1).1
theorem byteOk.eq {x y : Int32} (h : byteOk x y) {z : Nat} (hz : z < 128) : (y = Int32.ofNat z) = (x = Int32.ofNat z) := by
  obtain ⟨v, v0, v1, rfl, rfl⟩ := h
  have e := (bytT v v1).2
  have tz := ti_nat (n := z) (by omega)
  have tv := ti_nat (n := v) (by omega)
  apply propext
  constructor
  · intro q
    rw [q, tz] at e
    apply ti_inj
    rw [tz, tv]
    split at e <;> omega
  · intro q
    have q' := (io_eq (by omega) (by omega)).mp q
    apply ti_inj
    rw [e, tz, if_pos (by omega), q']
theorem byteOk.dg {x y : Int32} (h : byteOk x y) : (if y < 48 then (0 : Int32) else if 57 < y then 0 else 1) = (if 48 ≤ x ∧ x ≤ 57 then 1 else 0) ∧ (48 ≤ x ∧ x ≤ 57 → y = x) := by
  obtain ⟨v, v0, v1, rfl, rfl⟩ := h
  have e := (bytT v v1).2
  have tv := ti_nat (n := v) (by omega)
  have t48 : (48 : Int32).toInt = 48 := by decide
  have t57 : (57 : Int32).toInt = 57 := by decide
  simp only [Int32.lt_iff_toInt_lt, Int32.le_iff_toInt_le, e, tv, t48, t57]
  refine ⟨?_, fun q => ti_inj ?_⟩
  · by_cases q : (48 : Int) ≤ v ∧ (v : Int) ≤ 57
    · rw [if_pos q, if_pos (show v < 128 by omega), if_neg (by omega), if_neg (by omega)]
    · rw [if_neg q]
      by_cases q1 : (if v < 128 then (v : Int) else (v : Int) - 256) < 48
      · rw [if_pos q1]
      · rw [if_neg q1, if_pos (by split <;> split at q1 <;> omega)]
  · rw [e, tv, if_pos (by omega)]
def rS (S : zS) (i : Nat) (f w : Int32) : zS := sR S 41 (ru (ru (ru (S.1 41) 10 (Int32.ofNat i)) 11 f) 12 w)
theorem rS_10 : (rS S i f w).1 41 10 = Int32.ofNat i := by
  unfold rS
  rw [sR_at, ru_ne (by decide), ru_ne (by decide), ru_at]
theorem rS_11 : (rS S i f w).1 41 11 = f := by
  unfold rS
  rw [sR_at, ru_ne (by decide), ru_at]
theorem rS_12 : (rS S i f w).1 41 12 = w := by
  unfold rS
  rw [sR_at, ru_at]
theorem rS_k {k : Nat} (h : k ≠ 10 ∧ k ≠ 11 ∧ k ≠ 12) : (rS S i f w).1 41 k = S.1 41 k := by
  unfold rS
  rw [sR_at, ru_ne h.2.2, ru_ne h.2.1, ru_ne h.1]
theorem rS_8 : (rS S i f w).1 41 8 = S.1 41 8 := rS_k (by decide)
theorem rS_9 : (rS S i f w).1 41 9 = S.1 41 9 := rS_k (by decide)
theorem rS_b {a : Nat} (h : a ≠ 41) : (rS S i f w).1 a = S.1 a := sR_ne _ _ h
theorem rS_2 : (rS S i f w).2 = S.2 := rfl
theorem rS_s10 (j : Nat) : sV (rS S i f w) 41 10 (Int32.ofNat j) = rS S j f w := by
  unfold rS
  rw [sV_eq, sR_sR, sR_at]
  congr 1
  funext k
  unfold ru
  by_cases h1 : k = 10 <;> by_cases h2 : k = 11 <;> by_cases h3 : k = 12 <;> first | omega | simp [h1, h2, h3]
theorem rS_s11 (x : Int32) : sV (rS S i f w) 41 11 x = rS S i x w := by
  unfold rS
  rw [sV_eq, sR_sR, sR_at]
  congr 1
  funext k
  unfold ru
  by_cases h1 : k = 10 <;> by_cases h2 : k = 11 <;> by_cases h3 : k = 12 <;> first | omega | simp [h1, h2, h3]
theorem rS_s12 (x : Int32) : sV (rS S i f w) 41 12 x = rS S i f x := by
  unfold rS
  rw [sV_eq, sR_sR, sR_at, ru_ru]
theorem rS_up : sV (rS S i f w) 41 10 ((rS S i f w).1 41 10 + 1) = rS S (i + 1) f w := by rw [rS_10, io_sc, rS_s10]
/-- the text that the reference reads -/
def RTx (S : zS) (b : Nat → Int32) (n : Nat) : Prop := n ≤ 200 ∧ S.1 41 9 = Int32.ofNat n ∧ ∃ q, S.1 41 8 = Int32.ofNat q ∧ ((S.2.1 41 5 = .ref 42 ∧ q + n ≤ 200 ∧ ∀ k, k < n → byteOk (b k) (S.1 42 (q + k))) ∨ (S.2.1 41 5 = .ref 43 ∧ q + n ≤ 800 ∧ ∀ k, k < n → byteOk (b k) (S.1 43 (q + k))))
theorem RTx.tx (T : RTx S b n) : TxB b n := by
  obtain ⟨n2, -, q, -, ⟨-, -, hb⟩ | ⟨-, -, hb⟩⟩ := T
  · exact ⟨n2, fun k hk => by obtain ⟨v, v0, v1, v2, -⟩ := hb k hk; exact ⟨v, v0, v1, v2⟩⟩
  · exact ⟨n2, fun k hk => by obtain ⟨v, v0, v1, v2, -⟩ := hb k hk; exact ⟨v, v0, v1, v2⟩⟩
theorem zkr_ref {β : Type} (a : Nat) (x : Option β) (g : Nat → Option β) : zkr (.ref a) x g = g a := rfl
/-- a byte of the text, in either row -/
theorem r_byte {β : Type} (T : RTx S b n) (hi : i < n) (X : Int32 → Option β) (G : Nat → Option β) (h42 : G 42 = if ia_in ((rS S i f w).1 41 8 + (rS S i f w).1 41 10) 200 = true then X ((rS S i f w).1 42 ((rS S i f w).1 41 8 + (rS S i f w).1 41 10).toNatClampNeg) else none) (h43 : G 43 = if ia_in ((rS S i f w).1 41 8 + (rS S i f w).1 41 10) 800 = true then X ((rS S i f w).1 43 ((rS S i f w).1 41 8 + (rS S i f w).1 41 10).toNatClampNeg) else none) : ∃ y, byteOk (b i) y ∧ zkr ((rS S i f w).2.1 41 5) none G = X y := by
  obtain ⟨n2, e9, q, e8, ⟨e5, q2, hb⟩ | ⟨e5, q2, hb⟩⟩ := T
  · refine ⟨_, hb i hi, ?_⟩
    rw [rS_2, e5, zkr_ref, h42, rS_8, rS_10, e8, ix_aa, if_pos (io_in (by omega) (by omega)), io_cl (by omega), rS_b (by decide)]
  · refine ⟨_, hb i hi, ?_⟩
    rw [rS_2, e5, zkr_ref, h43, rS_8, rS_10, e8, ix_aa, if_pos (io_in (by omega) (by omega)), io_cl (by omega), rS_b (by decide)]
def lk (b : Nat → Int32) (n i : Nat) : Int32 := if sk b n i < n then b (sk b n i) else -1
theorem lk_eq {x : Int32} (h0 : x ≠ 0) (h1 : x ≠ -1) : (lk b n i = x) = (pk b n i = x) := by
  unfold lk pk
  split
  · rfl
  · exact propext ⟨fun q => absurd q.symm h1, fun q => absurd q.symm h0⟩
theorem lk_sk (hi : i ≤ n) : lk b n (sk b n i) = lk b n i := by
  unfold lk
  rw [sk_sk hi]
theorem io_nle {a c : Nat} (ha : a < 2147483648) (hc : c < 2147483648) (h : ¬ a ≤ c) : ¬ Int32.ofNat a ≤ Int32.ofNat c := fun q => h ((io_le ha hc).mp q)
theorem r_lookL (T : RTx S b n) (ex : zS → Option (Int32 × zS)) : ∀ (d i fu : Nat), n - i = d → i ≤ n → d < fu → f_X12_look_L0 ex fu (rS S i f w) = ex (rS S (sk b n i) f w)
  | 0, i, fu, hd, hi, hf => by
    obtain ⟨z, rfl⟩ : ∃ z, fu = z + 1 := ⟨fu - 1, by omega⟩
    have n2 := T.1
    rw [f_X12_look_L0, rS_9, T.2.1, rS_10, if_pos ((io_le (by omega) (by omega)).mpr (by omega)), sk_un, if_neg (fun q => by omega)]
  | d + 1, i, fu, hd, hi, hf => by
    obtain ⟨z, rfl⟩ : ∃ z, fu = z + 1 := ⟨fu - 1, by omega⟩
    have n2 := T.1
    rw [f_X12_look_L0, if_neg (fun q => by rw [rS_9, T.2.1, rS_10] at q; have := (io_le (by omega) (by omega)).mp q; omega)]
    obtain ⟨y, y1, y2⟩ := r_byte (i := i) (f := f) (w := w) T (by omega) (fun y => if ¬ y = 32 then ex (rS S i f w) else f_X12_look_L0 ex z (rS S (i + 1) f w)) (fun a2 => if a2 = 42 then if ia_in ((rS S i f w).1 41 8 + (rS S i f w).1 41 10) 200 = true then if ¬ (rS S i f w).1 42 ((rS S i f w).1 41 8 + (rS S i f w).1 41 10).toNatClampNeg = 32 then ex (rS S i f w) else zl (sV (rS S i f w) 41 10 ((rS S i f w).1 41 10 + 1)) fun S5 => f_X12_look_L0 ex z S5 else none else if a2 = 43 then if ia_in ((rS S i f w).1 41 8 + (rS S i f w).1 41 10) 800 = true then if ¬ (rS S i f w).1 43 ((rS S i f w).1 41 8 + (rS S i f w).1 41 10).toNatClampNeg = 32 then ex (rS S i f w) else zl (sV (rS S i f w) 41 10 ((rS S i f w).1 41 10 + 1)) fun S8 => f_X12_look_L0 ex z S8 else none else none) (by rw [if_pos rfl, zlE, rS_up]) (by rw [if_neg (by decide), if_pos rfl, zlE, rS_up])
    refine y2.trans ?_
    have e32 : (y = 32) = (b i = 32) := y1.eq (z := 32) (by decide)
    simp only [e32]
    rw [sk_un]
    by_cases q : b i = 32
    · rw [if_neg (fun h => h q), if_pos ⟨by omega, q⟩]
      exact r_lookL T ex d (i + 1) z (by omega) (by omega) (by omega)
    · rw [if_pos q, if_neg (fun h => q h.2)]
theorem r_look (T : RTx S b n) (hi : i ≤ n) : f_X12_look (rS S i f w) = some (lk b n i, rS S (sk b n i) f w) := by
  have n2 := T.1
  have s2 := sk_le (b := b) hi
  unfold f_X12_look
  rw [r_lookL T _ (n - i) i zN rfl hi (by unfold zN; omega)]
  unfold lk
  by_cases q : sk b n i < n
  · rw [if_neg (fun h => by rw [rS_9, T.2.1, rS_10] at h; have := (io_le (by omega) (by omega)).mp h; omega), if_pos q]
    obtain ⟨y, y1, y2⟩ := r_byte (i := sk b n i) (f := f) (w := w) T q (fun y => some (y &&& 255, rS S (sk b n i) f w)) (fun a11 => if a11 = 42 then if ia_in ((rS S (sk b n i) f w).1 41 8 + (rS S (sk b n i) f w).1 41 10) 200 = true then some ((rS S (sk b n i) f w).1 42 ((rS S (sk b n i) f w).1 41 8 + (rS S (sk b n i) f w).1 41 10).toNatClampNeg &&& 255, rS S (sk b n i) f w) else none else if a11 = 43 then if ia_in ((rS S (sk b n i) f w).1 41 8 + (rS S (sk b n i) f w).1 41 10) 800 = true then some ((rS S (sk b n i) f w).1 43 ((rS S (sk b n i) f w).1 41 8 + (rS S (sk b n i) f w).1 41 10).toNatClampNeg &&& 255, rS S (sk b n i) f w) else none else none) (if_pos rfl) (by rw [if_neg (by decide), if_pos rfl])
    refine y2.trans ?_
    rw [y1.and]
  · rw [if_pos (show _ from by rw [rS_9, T.2.1, rS_10]; exact (io_le (by omega) (by omega)).mpr (by omega)), if_neg q]
theorem r_isDigit (T : RTx S b n) (hi : i ≤ n) : f_X12_isDigit (rS S i f w) = some (if i < n ∧ 48 ≤ b i ∧ b i ≤ 57 then 1 else 0, rS S i f w) := by
  have n2 := T.1
  unfold f_X12_isDigit
  by_cases q : i < n
  · rw [if_neg (fun h => by rw [rS_9, T.2.1, rS_10] at h; have := (io_le (by omega) (by omega)).mp h; omega)]
    have fx : ∀ (c : Prop) [Decidable c] (y : Int32), (if c then (if y < 48 then some ((0 : Int32), rS S i f w) else if c then if 57 < y then some (0, rS S i f w) else some (1, rS S i f w) else none) else none) = if c then some (if y < 48 then (0 : Int32) else if 57 < y then 0 else 1, rS S i f w) else none := by
      intro c _ y
      by_cases hc : c
      · simp only [if_pos hc]
        split
        · rfl
        · split <;> rfl
      · rw [if_neg hc, if_neg hc]
    simp only [fx]
    obtain ⟨y, y1, y2⟩ := r_byte (i := i) (f := f) (w := w) T q (fun y => some (if y < 48 then (0 : Int32) else if 57 < y then 0 else 1, rS S i f w)) (fun a2 => if a2 = 42 then if ia_in ((rS S i f w).1 41 8 + (rS S i f w).1 41 10) 200 = true then some (if (rS S i f w).1 42 ((rS S i f w).1 41 8 + (rS S i f w).1 41 10).toNatClampNeg < 48 then (0 : Int32) else if 57 < (rS S i f w).1 42 ((rS S i f w).1 41 8 + (rS S i f w).1 41 10).toNatClampNeg then 0 else 1, rS S i f w) else none else if a2 = 43 then if ia_in ((rS S i f w).1 41 8 + (rS S i f w).1 41 10) 800 = true then some (if (rS S i f w).1 43 ((rS S i f w).1 41 8 + (rS S i f w).1 41 10).toNatClampNeg < 48 then (0 : Int32) else if 57 < (rS S i f w).1 43 ((rS S i f w).1 41 8 + (rS S i f w).1 41 10).toNatClampNeg then 0 else 1, rS S i f w) else none else none) (if_pos rfl) (by rw [if_neg (by decide), if_pos rfl])
    refine y2.trans ?_
    rw [y1.dg.1]
    by_cases q2 : 48 ≤ b i ∧ b i ≤ 57
    · rw [if_pos q2, if_pos ⟨q, q2⟩]
    · rw [if_neg q2, if_neg (fun h => q2 h.2)]
  · rw [if_pos (show _ from by rw [rS_9, T.2.1, rS_10]; exact (io_le (by omega) (by omega)).mpr (by omega)), if_neg (fun h => q h.1)]
theorem r_fails1 : f_X12_fails (rS S i (-1) w) = some (0, rS S i (Int32.ofNat i) w) := by
  unfold f_X12_fails
  rw [rS_11, if_neg (fun q => q rfl), zlE, rS_10, rS_s11]
theorem r_fails0 {x : Nat} (hx : x < 2147483648) : f_X12_fails (rS S i (Int32.ofNat x) w) = some (0, rS S i (Int32.ofNat x) w) := by
  unfold f_X12_fails
  rw [rS_11, if_pos (io_ne1 hx)]
theorem r_takes1 (T : RTx S b n) (hi : i ≤ n) {x : Int32} (h0 : x ≠ 0) (h1 : x ≠ -1) : f_X12_takes x (rS S i (-1) w) = if pk b n i = x then some (1, rS S (sk b n i + 1) (-1) w) else some (0, rS S (sk b n i) (Int32.ofNat (sk b n i)) w) := by
  unfold f_X12_takes
  rw [zlE, rS_11, if_neg (fun q => q rfl), r_look T hi, zbE, zlE, rS_up]
  simp only [lk_eq h0 h1, r_fails1, zbE]
  by_cases q : pk b n i = x
  · rw [if_pos q, if_pos q]
  · rw [if_neg q, if_neg q, if_pos (Or.inl trivial)]
theorem r_takes0 {x : Int32} {y : Nat} (hy : y < 2147483648) : f_X12_takes x (rS S i (Int32.ofNat y) w) = some (0, rS S i (Int32.ofNat y) w) := by
  unfold f_X12_takes
  rw [zlE, rS_11, if_pos (io_ne1 hy)]
  show zb (f_X12_fails (rS S i (Int32.ofNat y) w)) _ = _
  rw [r_fails0 hy, zbE, if_pos (Or.inl rfl)]
theorem r_goesIn1 {v : Nat} (hv : v < 6) : f_X12_goesIn (rS S i (-1) (Int32.ofNat v)) = some (1, rS S (i + 1) (-1) (Int32.ofNat (v + 1))) := by
  unfold f_X12_goesIn
  rw [rS_12, if_pos (fun q => by have := (io_eq (b := 6) (by omega) (by omega)).mp q; omega), zlE, io_sc, rS_s12, zlE, rS_up]
theorem r_goesIn0 : f_X12_goesIn (rS S i (-1) (Int32.ofNat 6)) = some (0, rS S i (Int32.ofNat i) (Int32.ofNat 6)) := by
  unfold f_X12_goesIn
  rw [rS_12, if_neg (fun q => q rfl), r_fails1, zbE, if_pos (Or.inl rfl)]
theorem r_isSign (S : zS) : f_X12_isSign (lk b n i) S = some (if pk b n i = 61 ∨ pk b n i = 60 ∨ pk b n i = 62 then 1 else 0, S) := by
  unfold f_X12_isSign
  simp only [zlE, lk_eq (show (61 : Int32) ≠ 0 by decide) (by decide), lk_eq (show (60 : Int32) ≠ 0 by decide) (by decide), lk_eq (show (62 : Int32) ≠ 0 by decide) (by decide)]
  by_cases h1 : pk b n i = 61
  · rw [if_pos h1, if_pos (Or.inl h1)]
  · rw [if_neg h1]
    by_cases h2 : pk b n i = 60
    · rw [if_pos h2, if_pos (Or.inr (Or.inl h2))]
    · rw [if_neg h2]
      by_cases h3 : pk b n i = 62
      · rw [if_neg (fun q => q h3), if_pos (Or.inr (Or.inr h3))]
      · rw [if_pos h3, if_neg (fun q => by rcases q with q | q | q <;> contradiction)]
theorem ax4_let (x : Int32) : ax_4 x = if letR x = none then 0 else 1 := by
  unfold ax_4 letR
  by_cases h0 : x = 112
  · subst h0; rfl
  by_cases h1 : x = 115
  · subst h1; rfl
  by_cases h2 : x = 119
  · subst h2; rfl
  by_cases h3 : x = 105
  · subst h3; rfl
  by_cases h4 : x = 99
  · subst h4; rfl
  by_cases h5 : x = 97
  · subst h5; rfl
  rw [if_neg (fun q => h0 q.symm), if_neg (fun q => h1 q.symm), if_neg (fun q => h2 q.symm), if_neg (fun q => h3 q.symm), if_neg (fun q => h4 q.symm), if_neg (fun q => h5 q.symm), if_neg h0, if_neg h1, if_neg h2, if_neg h3, if_neg h4, if_neg h5, if_pos rfl]
theorem lk_let : letR (lk b n i) = letR (pk b n i) := by
  unfold lk pk
  split <;> rfl
def RLt (S : zS) (e : Nat → Int32) : Prop := S.1 45 112 = e 0 ∧ S.1 45 115 = e 1 ∧ S.1 45 119 = e 2 ∧ S.1 45 105 = e 3 ∧ S.1 45 99 = e 4 ∧ S.1 45 97 = e 5
/-- it reads as the plain reader does -/
def rOK (Pf : Int32 → Prop) (n : Nat) (S : zS) (e : Nat → Int32) (w : Int32) (m : zPR) (o : Option (Int32 × zS)) : Prop :=
  (∀ x, m = .inl x → x ≤ n ∧ ∃ v i' w', Pf v ∧ o = some (v, rS S i' (Int32.ofNat x) w')) ∧ ∀ i' c, m = .inr (i', c) → ∃ v, Pf v ∧ (eB e → v = ev e c) ∧ o = some (v, rS S i' (-1) w)
theorem rOK_l {Pf : Int32 → Prop} {e : Nat → Int32} {x i' : Nat} {v w w' : Int32} {o : Option (Int32 × zS)} (hx : x ≤ n) (hv : Pf v) (ho : o = some (v, rS S i' (Int32.ofNat x) w')) : rOK Pf n S e w (.inl x) o :=
  ⟨fun y h => by cases h; exact ⟨hx, v, i', w', hv, ho⟩, fun _ _ h => by cases h⟩
theorem rOK_r {Pf : Int32 → Prop} {e : Nat → Int32} {i' : Nat} {c : List Int32} {v w : Int32} {o : Option (Int32 × zS)} (hv : Pf v) (he : eB e → v = ev e c) (ho : o = some (v, rS S i' (-1) w)) : rOK Pf n S e w (.inr (i', c)) o :=
  ⟨fun y h => (by cases h), fun _ _ h => by cases h; exact ⟨v, hv, he, ho⟩⟩
theorem rOK_b {Pf Pg : Int32 → Prop} {e : Nat → Int32} {w w2 : Int32} {m : zPR} {o : Option (Int32 × zS)} {F : Nat → List Int32 → zPR} {g : Int32 → zS → Option (Int32 × zS)} (h : rOK Pf n S e w m o) (hl : ∀ i' c v, m = .inr (i', c) → Pf v → (eB e → v = ev e c) → rOK Pg n S e w2 (F i' c) (g v (rS S i' (-1) w))) (hd : ∀ x v i' w', x ≤ n → Pf v → ∃ v' i'' w'', Pg v' ∧ g v (rS S i' (Int32.ofNat x) w') = some (v', rS S i'' (Int32.ofNat x) w'')) : rOK Pg n S e w2 (pB m F) (zb o g) := by
  cases m with
  | inl x =>
    obtain ⟨hx, v, i', w', hv, ho⟩ := h.1 x rfl
    obtain ⟨v', i'', w'', p1, p2⟩ := hd x v i' w' hx hv
    rw [ho, zbE]
    exact rOK_l hx p1 p2
  | inr r =>
    obtain ⟨i', c⟩ := r
    obtain ⟨v, hv, he, ho⟩ := h.2 i' c rfl
    rw [ho, zbE]
    exact hl i' c v rfl hv he
end OC
