/-! What the class makes of a law. -/
section NJ
variable {A B : zS}
theorem io_mm {n : Nat} (h : 0 < n) : Int32.ofNat n - 1 = Int32.ofNat (n - 1) := by
  have := Int32.ofNat_sub n 1 (by omega)
  exact this.symm
theorem lim_eq (x : Int64) (S : zS) : (if lg_cmp x 1000000 ≤ 0 then if 0 ≤ lg_cmp x (-1000000) then some (x.toInt32, S) else some ((-1000000), S) else some (1000000, S)) = some (lim64 x, S) := by
  have p := lg_p x 1000000
  have n := lg_n x (-1000000)
  have e1 : (1000000 : Int64).toInt = 1000000 := by decide
  have e2 : (-1000000 : Int64).toInt = -1000000 := by decide
  rw [e1] at p
  rw [e2] at n
  unfold lim64
  by_cases h1 : 0 < lg_cmp x 1000000
  · have q := p.mp h1
    have c1 : ¬ x < 1000000 := fun c => by rw [Int64.lt_iff_toInt_lt, e1] at c; omega
    have c2 : ¬ (1000000 : Int64) < -1000000 := by decide
    rw [if_neg (Int32.not_le.mpr h1), if_neg c1, if_neg c2]
    rfl
  · have q : ¬ 1000000 < x.toInt := fun c => h1 (p.mpr c)
    rw [if_pos (Int32.not_lt.mp h1)]
    by_cases h2 : lg_cmp x (-1000000) < 0
    · have q2 := n.mp h2
      have c1 : x < 1000000 := by rw [Int64.lt_iff_toInt_lt, e1]; omega
      have c2 : x < -1000000 := by rw [Int64.lt_iff_toInt_lt, e2]; omega
      rw [if_neg (Int32.not_le.mpr h2), if_pos c1, if_pos c2]
      rfl
    · have q2 : ¬ x.toInt < -1000000 := fun c => h2 (n.mpr c)
      rw [if_pos (Int32.not_lt.mp h2)]
      by_cases c1 : x < 1000000
      · have c2 : ¬ x < -1000000 := fun c => by rw [Int64.lt_iff_toInt_lt, e2] at c; omega
        rw [if_pos c1, if_neg c2]
      · have c2 : ¬ (1000000 : Int64) < -1000000 := by decide
        have c3 : x = 1000000 := by
          rw [Int64.lt_iff_toInt_lt, e1] at c1
          exact Int64.toInt_inj.mp (by rw [e1]; omega)
        rw [if_neg c1, if_neg c2, c3]
def jnOk (c : Int32) : Prop := c = 38 ∨ c = 124 ∨ c = 42 ∨ c = 43 ∨ c = 45 ∨ c = 47 ∨ c = 60 ∨ c = 61 ∨ c = 62
theorem c_joined {c : Int32} (hc : jnOk c) (l r : Int32) (S : zS) : f_X2_joined c l r S = some (joinV c l r, S) := by
  rcases hc with rfl | rfl | rfl | rfl | rfl | rfl | rfl | rfl | rfl
  · rfl
  · rfl
  · exact lim_eq _ S
  · exact lim_eq _ S
  · exact lim_eq _ S
  · show (if ¬ r = 0 then if r = 0 then none else (if lg_cmp ((l / r).toInt64) 1000000 ≤ 0 then if 0 ≤ lg_cmp ((l / r).toInt64) (-1000000) then some (((l / r).toInt64).toInt32, S) else some ((-1000000), S) else some (1000000, S)) else _) = some (if r = 0 then 0 else lim64 ((l / r).toInt64), S)
    by_cases h : r = 0
    · rw [if_neg (fun q => q h), if_pos h]
      rfl
    · rw [if_pos h, if_neg h, if_neg h, lim_eq]
  · show (if r ≤ l then some ((0 : Int32), S) else some (1, S)) = some (if l < r then 1 else 0, S)
    by_cases h : l < r
    · rw [if_neg (Int32.not_le.mpr h), if_pos h]
    · rw [if_pos (Int32.not_lt.mp h), if_neg h]
  · show (if ¬ l = r then some ((0 : Int32), S) else some (1, S)) = some (if l = r then 1 else 0, S)
    by_cases h : l = r
    · rw [if_neg (fun q => q h), if_pos h]
    · rw [if_pos h, if_neg h]
  · show (if l ≤ r then some ((0 : Int32), S) else some (1, S)) = some (if r < l then 1 else 0, S)
    by_cases h : r < l
    · rw [if_neg (Int32.not_le.mpr h), if_pos h]
    · rw [if_pos (Int32.not_lt.mp h), if_neg h]
theorem c_valueOf {c : Int32} {e : Nat → Int32} (hc : codeOk c) (h1 : 1000 ≤ c) (S : zS) (he : ∀ k, k < 6 → S.1 15 k = e k) : f_X2_valueOf c S = some (valE e c, S) := by
  unfold f_X2_valueOf valE
  by_cases h2 : 2000 ≤ c
  · rw [if_neg (Int32.not_lt.mpr h2), if_pos h2]
  · rw [if_pos (Int32.not_le.mp h2), if_neg h2, zlE]
    have key : ∃ l, l < 6 ∧ c = Int32.ofNat (1000 + l) := by
      rcases hc with h | ⟨v, hv, rfl⟩ | h
      · exact h
      · exact absurd ((io_le (a := 2000) (by omega) (by omega)).mpr (by omega)) h2
      · rcases h with rfl | rfl | rfl | rfl | rfl | rfl | rfl | rfl | rfl | rfl | rfl | rfl <;> exact absurd h1 (by decide)
    obtain ⟨l, hl, rfl⟩ := key
    have es : Int32.ofNat (1000 + l) - 1000 = Int32.ofNat l := by rw [Int32.ofNat_add, Int32.add_comm, show Int32.ofNat 1000 = 1000 from rfl, Int32.add_sub_cancel]
    rw [es, if_neg (fun q => by rw [i_lt0, ti_nat (by omega)] at q; omega), if_neg (fun q => by have := (io_le (a := 6) (by omega) (by omega)).mp q; omega), if_pos (io_in (by omega) (by omega)), io_cl (by omega), he l hl]
theorem c_lawL {a : Nat} (ha : 64 ≤ a) {e : Nat → Int32} : ∀ (cs : List Int32) (i h f : Nat) (s : Bool) (A : zS), (∀ (k : Nat) (hk : k < cs.length), A.1 a (i + k) = cs[k]) → A.2.2.1 a = i + cs.length → i + cs.length ≤ 202 → h ≤ 64 → cs.length < f → (∀ k, k < 6 → A.1 15 k = e k) → (∀ c ∈ cs, codeOk c) →
    ∃ A', f_X2_lawWorth_L7 a (fun (q41 : Int32) (q42 : Int32) (q43 : Int32) (S40 : zS) => some (0, S40)) f (Int32.ofNat h) (if s then 1 else 0) (Int32.ofNat i) A = some (exA e cs h s (A.1 16), A') ∧ A'.2 = A.2 ∧ ∀ b, b ≠ 16 → A'.1 b = A.1 b := by
  intro cs
  induction cs with
  | nil =>
    intro i h f s A hr hl h202 hh hf he hok
    obtain ⟨f, rfl⟩ : ∃ g, f = g + 1 := ⟨f - 1, by have : ([] : List Int32).length = 0 := rfl; omega⟩
    unfold f_X2_lawWorth_L7
    rw [hl, show i + ([] : List Int32).length = i from rfl, if_pos (Int32.le_refl _)]
    exact ⟨A, rfl, rfl, fun _ _ => rfl⟩
  | cons c cs ih =>
    intro i h f s A hr hl h202 hh hf he hok
    rw [List.length_cons] at hl h202 hf
    obtain ⟨f, rfl⟩ : ∃ g, f = g + 1 := ⟨f - 1, by omega⟩
    have ok := hok c (List.mem_cons_self ..)
    have hc : A.1 a i = c := hr 0 (by rw [List.length_cons]; omega)
    have q : ¬ Int32.ofNat (i + (cs.length + 1)) ≤ Int32.ofNat i := fun q => by have := (io_le (by omega) (by omega)).mp q; omega
    have go : ∀ (h : Nat) (s : Bool) (A1 : zS), h ≤ 64 → A1.2 = A.2 → (∀ b, b ≠ 16 → A1.1 b = A.1 b) → ∃ A', f_X2_lawWorth_L7 a (fun (q41 : Int32) (q42 : Int32) (q43 : Int32) (S40 : zS) => some (0, S40)) f (Int32.ofNat h) (if s then 1 else 0) (Int32.ofNat (i + 1)) A1 = some (exA e cs h s (A1.1 16), A') ∧ A'.2 = A.2 ∧ ∀ b, b ≠ 16 → A'.1 b = A.1 b := by
      intro h s A1 hh e1 e2
      obtain ⟨A', z1, z2, z3⟩ := ih (i + 1) h f s A1 (fun k hk => by
        rw [e2 a (by omega), show i + 1 + k = i + (k + 1) by omega]
        exact hr (k + 1) (by rw [List.length_cons]; omega)) (by rw [e1]; omega) (by omega) hh (by omega) (fun k hk => by rw [e2 15 (by decide)]; exact he k hk) (fun x hx => hok x (List.mem_cons_of_mem _ hx))
      exact ⟨A', z1, z2.trans e1, fun b hb => (z3 b hb).trans (e2 b hb)⟩
    have go0 : ∀ (h : Nat) (A1 : zS), h ≤ 64 → A1.2 = A.2 → (∀ b, b ≠ 16 → A1.1 b = A.1 b) → ∃ A', f_X2_lawWorth_L7 a (fun (q41 : Int32) (q42 : Int32) (q43 : Int32) (S40 : zS) => some (0, S40)) f (Int32.ofNat h) 0 (Int32.ofNat (i + 1)) A1 = some (exA e cs h false (A1.1 16), A') ∧ A'.2 = A.2 ∧ ∀ b, b ≠ 16 → A'.1 b = A.1 b := fun h A1 x1 x2 x3 => go h false A1 x1 x2 x3
    have go1 : ∀ (h : Nat) (A1 : zS), h ≤ 64 → A1.2 = A.2 → (∀ b, b ≠ 16 → A1.1 b = A.1 b) → ∃ A', f_X2_lawWorth_L7 a (fun (q41 : Int32) (q42 : Int32) (q43 : Int32) (S40 : zS) => some (0, S40)) f (Int32.ofNat h) 1 (Int32.ofNat (i + 1)) A1 = some (exA e cs h true (A1.1 16), A') ∧ A'.2 = A.2 ∧ ∀ b, b ≠ 16 → A'.1 b = A.1 b := fun h A1 x1 x2 x3 => go h true A1 x1 x2 x3
    have wr : ∀ (j : Nat) (x : Int32), (sV A 16 j x).2 = A.2 ∧ (∀ b, b ≠ 16 → (sV A 16 j x).1 b = A.1 b) ∧ (sV A 16 j x).1 16 = ru (A.1 16) j x := fun j x => by
      rw [sV_eq]
      exact ⟨rfl, fun b hb => sR_ne _ _ hb, sR_at _ _ _⟩
    unfold f_X2_lawWorth_L7 exA
    rw [hl, if_neg q, if_pos (io_in (by omega) (by omega)), io_cl (by omega), hc]
    simp only [zlE, io_sc]
    cases s with
    | true =>
      rw [if_pos rfl, if_pos rfl, if_neg (show ¬ (1 : Int32) = 0 by decide)]
      by_cases c59 : c = 59
      · rw [if_pos c59, show decide (c ≠ 59) = false from decide_eq_false (fun q => q c59)]
        exact go0 h A hh rfl (fun _ _ => rfl)
      · rw [if_neg c59, show decide (c ≠ 59) = true from decide_eq_true c59]
        exact go1 h A hh rfl (fun _ _ => rfl)
    | false =>
      have nf : ¬ false = true := by decide
      rw [if_neg nf, if_neg nf, if_pos rfl]
      by_cases c59 : c = 59
      · rw [if_neg (fun q => q c59), if_pos c59]
        exact ⟨A, rfl, rfl, fun _ _ => rfl⟩
      rw [if_pos c59, if_neg c59]
      by_cases c63 : c = 63
      · rw [if_neg (fun q => q c63), if_pos c63]
        by_cases z : A.1 16 0 = 0
        · rw [if_neg (fun q => q z), show decide (A.1 16 0 = 0) = true from decide_eq_true z]
          exact go1 0 A (by omega) rfl (fun _ _ => rfl)
        · rw [if_pos z, show decide (A.1 16 0 = 0) = false from decide_eq_false z]
          exact go0 0 A (by omega) rfl (fun _ _ => rfl)
      rw [if_pos c63, if_neg c63]
      by_cases c1000 : 1000 ≤ c
      · rw [if_neg (Int32.not_lt.mpr c1000), if_pos c1000]
        by_cases h64 : h < 64
        · rw [if_neg (fun q => by have := (io_le (a := 64) (by omega) (by omega)).mp q; omega), if_pos h64, c_valueOf ok c1000 A he, zbE, if_pos (io_in (by omega) (by omega)), io_cl (by omega)]
          obtain ⟨w1, w2, w3⟩ := wr h (valE e c)
          rw [← w3]
          exact go0 (h + 1) _ (by omega) w1 w2
        · rw [if_pos (show (64 : Int32) ≤ Int32.ofNat h from (io_le (a := 64) (by omega) (by omega)).mpr (by omega)), if_neg h64]
          exact go0 h A hh rfl (fun _ _ => rfl)
      rw [if_pos (Int32.not_le.mp c1000), if_neg c1000]
      by_cases c33 : c = 33
      · rw [if_neg (fun q => q c33), if_pos c33]
        by_cases h1 : 1 ≤ h
        · rw [if_neg (fun q => by have := (io_lt (b := 1) (by omega) (by omega)).mp q; omega), if_pos h1, io_mm (by omega), if_pos (io_in (by omega) (by omega)), io_cl (by omega)]
          obtain ⟨w1, w2, w3⟩ := wr (h - 1) (1 - A.1 16 (h - 1))
          rw [if_pos (io_in (by omega) (by omega)), ← w3]
          exact go0 h _ hh w1 w2
        · rw [if_pos (show Int32.ofNat h < 1 from (io_lt (b := 1) (by omega) (by omega)).mpr (by omega)), if_neg h1]
          exact go0 h A hh rfl (fun _ _ => rfl)
      rw [if_pos c33, if_neg c33]
      have jn : jnOk c := by
        rcases ok with ⟨l, hl, rfl⟩ | ⟨v, hv, rfl⟩ | h1 | h1 | h1 | h1 | h1 | h1 | h1 | h1 | h1 | h1 | h1 | h1
        · exact absurd ((io_le (a := 1000) (by omega) (by omega)).mpr (by omega)) c1000
        · exact absurd ((io_le (a := 1000) (by omega) (by omega)).mpr (by omega)) c1000
        · exact absurd h1 c59
        · exact absurd h1 c63
        · exact absurd h1 c33
        all_goals unfold jnOk
        · exact Or.inl h1
        · exact Or.inr (Or.inl h1)
        · exact Or.inr (Or.inr (Or.inl h1))
        · exact Or.inr (Or.inr (Or.inr (Or.inl h1)))
        · exact Or.inr (Or.inr (Or.inr (Or.inr (Or.inl h1))))
        · exact Or.inr (Or.inr (Or.inr (Or.inr (Or.inr (Or.inl h1)))))
        · exact Or.inr (Or.inr (Or.inr (Or.inr (Or.inr (Or.inr (Or.inl h1))))))
        · exact Or.inr (Or.inr (Or.inr (Or.inr (Or.inr (Or.inr (Or.inr (Or.inl h1)))))))
        · exact Or.inr (Or.inr (Or.inr (Or.inr (Or.inr (Or.inr (Or.inr (Or.inr h1)))))))
      by_cases h2 : 2 ≤ h
      · have e1 : Int32.ofNat h + (-1) = Int32.ofNat (h - 1) := by rw [← Int32.sub_eq_add_neg, io_mm (by omega)]
        have e2 : Int32.ofNat (h - 1) - 1 = Int32.ofNat (h - 2) := by rw [io_mm (by omega), show h - 1 - 1 = h - 2 by omega]
        rw [if_neg (fun q => by have := (io_lt (b := 2) (by omega) (by omega)).mp q; omega), if_pos h2, e1, e2]
        simp (disch := omega) only [io_in, io_cl, if_true, c_joined jn, zbE]
        obtain ⟨w1, w2, w3⟩ := wr (h - 2) (joinV c (A.1 16 (h - 2)) (A.1 16 (h - 1)))
        rw [← w3]
        exact go0 (h - 1) _ (by omega) w1 w2
      · rw [if_pos (show Int32.ofNat h < 2 from (io_lt (b := 2) (by omega) (by omega)).mpr (by omega)), if_neg h2]
        exact go0 h A hh rfl (fun _ _ => rfl)
theorem heldC_law {W : zLw} (H : HeldC A W) : LawC A W := by
  intro A' h1 h2 h3
  rcases H with ⟨e1, rfl⟩ | ⟨a, cs, e1, ⟨r1, r2, r3, r4, r5⟩, ⟨g1, g2⟩, rfl⟩
  · unfold worthC
    rw [h1, e1]
    show zk (f_X2_plainWorth A') _
    unfold f_X2_plainWorth
    simp only [zlE]
    by_cases h : A'.1 15 3 ≤ A'.1 15 1
    · rw [if_pos h]
      refine ⟨_, A', rfl, ?_, rfl, fun _ _ => rfl⟩
      unfold plainW
      rw [if_pos h]
    · rw [if_neg h]
      refine ⟨_, A', rfl, ?_, rfl, fun _ _ => rfl⟩
      unfold plainW
      rw [if_neg h]
  · have q3 : A'.2.2.1 a = cs.length := by rw [h2]; exact r3
    obtain ⟨A'', z1, z2, z3⟩ := c_lawL r1 (e := A'.1 15) cs 0 0 zN false A' (fun k hk => by rw [h3 a r1, Nat.zero_add]; exact r5 k hk) (by rw [q3, Nat.zero_add]) (by omega) (by omega) (by unfold zN; omega) (fun _ _ => rfl) g1
    unfold worthC
    rw [h1, e1]
    show zk (if 64 ≤ a ∧ a < A'.2.2.2 then f_X2_lawWorth a A' else none) _
    rw [if_pos ⟨r1, by rw [h2]; exact r2⟩]
    refine ⟨_, A'', z1, ?_, z2, z3⟩
    unfold codeW
    refine g2 _ _ _ (fun k hk => ?_)
    unfold envL
    rcases (show k = 0 ∨ k = 1 ∨ k = 2 ∨ k = 3 ∨ k = 4 ∨ k = 5 by omega) with rfl | rfl | rfl | rfl | rfl | rfl <;> rfl
theorem bd_le {x : Int32} {a b b' : Int} (h : bd x a b) (h0 : 0 ≤ a) (hb : b ≤ b') : bd x 0 b' := ⟨by have := h.1; omega, by have := h.2; omega⟩
theorem adds_bd {nj nh nt : Nat} {jT hT tT : Nat → Int32} (T : ToldB nj nh nt jT hT tT) {t : Option Nat} (ht : ∀ k, t = some k → k < nt) : bd (addsV tT t) 0 99 := by
  cases t with
  | none => exact (⟨by decide, by decide⟩ : bd (0 : Int32) 0 99)
  | some k => exact (T.2.2.2.2.2.2.2 k (ht k rfl)).1
theorem gBd_of {M nj nh nt : Nat} {jT hT tT r : Nat → Int32} (T : ToldB nj nh nt jT hT tT) (R : RowOk jT nj M r) {h j : Nat} {t : Option Nat} (hh : h < nh) (hj : j < nj) (ht : ∀ k, t = some k → k < nt) : gBd jT hT tT r h t j := by
  have n4 := T.1
  have n6 := T.2.1
  have p := R.2.2.1 h (by omega)
  have c := (R.2.1 j (by omega)).2.2.1
  have s := (T.2.2.2.2.2.2.1 h hh).2.1
  have i := (T.2.2.2.2.2.1 j hj).2.2.2.2.1
  exact ⟨p.1, bd_le s (by decide) (by decide), bd_le p.2 (by decide) (by decide), bd_le i (by decide) (by decide), bd_le c (by decide) (by decide), adds_bd T ht⟩
theorem gBd_row {M nj nh nt : Nat} {jT hT tT r : Nat → Int32} (T : ToldB nj nh nt jT hT tT) (R : RowOk jT nj M r) {h tb : Nat} {t : Option Nat} (h64 : r 64 = Int32.ofNat tb) (hb : tb < 4) (hh : h < nh) (ht : ∀ k, t = some k → k < nt) : gBd jT hT tT r h t tb := by
  obtain ⟨b, b1, b2, b3⟩ := R.1
  have e : b = tb := (io_eq (by omega) (by omega)).mp (b3.symm.trans h64)
  subst e
  rcases b2 with b2 | b2
  · have := (T.2.2.2.1 b2).1
    omega
  · exact gBd_of T R hh b2 ht
theorem gBd_cg {jT hT tT r q : Nat → Int32} {h j : Nat} {t : Option Nat} (hh : h < 6) (hj : j < 4) (e : ∀ k, k < 40 → r k = q k) (H : gBd jT hT tT r h t j) : gBd jT hT tT q h t j := by
  unfold gBd at *
  rw [← e (28 + 2 * h) (by omega), ← e (28 + 2 * h + 1) (by omega), ← e (7 * j + 2) (by omega)]
  exact H
theorem tBd_of {nj nh nt : Nat} {jT hT tT : Nat → Int32} (T : ToldB nj nh nt jT hT tT) {h j : Nat} {t : Option Nat} (hh : h < nh) (hj : j < nj) (ht : ∀ k, t = some k → k < nt) : LBd (hT (5 * h)) (hT (5 * h + 1)) (hT (5 * h + 2)) (jT (6 * j + 4)) (jT (6 * j + 2)) (addsV tT t) := by
  obtain ⟨p, s, w, -, -⟩ := T.2.2.2.2.2.2.1 h hh
  obtain ⟨-, -, c, -, i, -⟩ := T.2.2.2.2.2.1 j hj
  exact ⟨p, bd_le s (by decide) (by decide), bd_le w (by decide) (by decide), bd_le i (by decide) (by decide), bd_le c (by decide) (by decide), adds_bd T ht⟩
theorem heldR_plain {W : zLw} (h35 : B.1 41 35 = -1) (hW : W = plainW) : LawR B W := by
  intro B' e1 e2 e3 p s w i c a hL
  obtain ⟨l1, l2, l3, l4, l5, l6⟩ := hL
  unfold bd at l2 l4
  have e : (if 0 < i - s then i - s else 0) = (if i ≤ s then 0 else i - s) := by
    have d : (i - s).toInt = i.toInt - s.toInt := ti_sub (by omega)
    by_cases h : i ≤ s
    · have h' := Int32.le_iff_toInt_le.mp h
      rw [if_pos h, if_neg (fun q => by rw [Int32.lt_iff_toInt_lt, d, ti_0] at q; omega)]
    · have h' : ¬ i.toInt ≤ s.toInt := fun q => h (Int32.le_iff_toInt_le.mpr q)
      rw [if_neg h, if_pos (by rw [Int32.lt_iff_toInt_lt, d, ti_0]; omega)]
  unfold f_X12_gripBy
  rw [e1, h35, zlE, if_neg (show ¬ ¬ (-1 : Int32) = -1 from fun q => q rfl), zlE]
  refine ⟨_, B', rfl, ?_, sameR.rfl' B'⟩
  rw [hW, e]
  rfl
end NJ
