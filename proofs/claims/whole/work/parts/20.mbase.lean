/-! The mathematics: rows of numbers, states, numbers below 2^31 (its repeated rows are written by wip/whole/gen20.py). -/
section MA
def ru (f : Nat → Int32) (j : Nat) (x : Int32) : Nat → Int32 := fun k => if k = j then x else f k
theorem ru_at (f : Nat → Int32) (j : Nat) (x : Int32) : ru f j x j = x := if_pos rfl
theorem ru_ne {f : Nat → Int32} {j k : Nat} {x : Int32} (h : k ≠ j) : ru f j x k = f k := if_neg h
theorem ru_ru (f : Nat → Int32) (j : Nat) (x y : Int32) : ru (ru f j x) j y = ru f j y := by
  funext k
  unfold ru
  split <;> rfl
theorem ru_self (f : Nat → Int32) (j : Nat) : ru f j (f j) = f := by
  funext k
  unfold ru
  split
  · next h => rw [h]
  · rfl
/-- a place changed by a function of what stands there -/
def um (f : Nat → Int32) (j : Nat) (F : Int32 → Int32) : Nat → Int32 := ru f j (F (f j))
theorem um_at (f : Nat → Int32) (j : Nat) (F : Int32 → Int32) : um f j F j = F (f j) := ru_at _ _ _
theorem um_ne {f : Nat → Int32} {j k : Nat} {F : Int32 → Int32} (h : k ≠ j) : um f j F k = f k := ru_ne h
def sR (S : zS) (a : Nat) (r : Nat → Int32) : zS := (fun b => if b = a then r else S.1 b, S.2)
theorem sR_at (S : zS) (a : Nat) (r : Nat → Int32) : (sR S a r).1 a = r := if_pos rfl
theorem sR_ne (S : zS) {a b : Nat} (r : Nat → Int32) (h : b ≠ a) : (sR S a r).1 b = S.1 b := if_neg h
theorem sR_2 (S : zS) (a : Nat) (r : Nat → Int32) : (sR S a r).2 = S.2 := rfl
theorem sR_sR (S : zS) (a : Nat) (r r' : Nat → Int32) : sR (sR S a r) a r' = sR S a r' := by
  unfold sR
  refine Prod.ext ?_ rfl
  funext b
  show (if b = a then r' else if b = a then r else S.1 b) = (if b = a then r' else S.1 b)
  by_cases h : b = a
  · rw [if_pos h, if_pos h]
  · rw [if_neg h, if_neg h, if_neg h]
theorem sR_self (S : zS) (a : Nat) : sR S a (S.1 a) = S := by
  unfold sR
  refine Prod.ext ?_ rfl
  funext b
  show (if b = a then S.1 a else S.1 b) = _
  split
  · next h => rw [h]
  · rfl
theorem sR_cm (S : zS) {a b : Nat} (r q : Nat → Int32) (h : a ≠ b) : sR (sR S a r) b q = sR (sR S b q) a r := by
  unfold sR
  refine Prod.ext ?_ rfl
  funext c
  show (if c = b then q else if c = a then r else S.1 c) = (if c = a then r else if c = b then q else S.1 c)
  by_cases h1 : c = b
  · subst h1
    rw [if_pos rfl, if_neg (fun e => h e.symm), if_pos rfl]
  · rw [if_neg h1, if_neg h1]
theorem sV_eq (S : zS) (a j : Nat) (x : Int32) : sV S a j x = sR S a (ru (S.1 a) j x) := by
  unfold sV sR
  refine Prod.ext ?_ rfl
  funext b k
  show zu S.1 a j x b k = (if b = a then ru (S.1 a) j x else S.1 b) k
  unfold zu ru
  by_cases hb : b = a
  · subst hb
    simp
  · rw [if_neg (fun q => hb q.1), if_neg hb]
theorem sV_2 (S : zS) (a j : Nat) (x : Int32) : (sV S a j x).2 = S.2 := rfl
theorem sV_g (S : zS) (a j : Nat) (x : Int32) (b k : Nat) : (sV S a j x).1 b k = if b = a ∧ k = j then x else S.1 b k := Eq.trans rfl rfl
theorem sK_1 (S : zS) (a j : Nat) (v : Value) : (sK S a j v).1 = S.1 := rfl
theorem sK_g (S : zS) (a j : Nat) (v : Value) (b k : Nat) : (sK S a j v).2.1 b k = if b = a ∧ k = j then v else S.2.1 b k := Eq.trans rfl rfl
theorem sK_22 (S : zS) (a j : Nat) (v : Value) : (sK S a j v).2.2 = S.2.2 := rfl
theorem zlE {α β : Type} (a : α) (f : α → Option β) : zl a f = f a := Eq.trans rfl rfl
theorem zbE {α β : Type} (a : α) (S : zS) (f : α → zS → Option β) : zb (some (a, S)) f = f a S := Eq.trans rfl rfl
/-- it ends, and well -/
def zk {α : Type} (m : Option (α × zS)) (Q : α → zS → Prop) : Prop := ∃ a S, m = some (a, S) ∧ Q a S
theorem zk_s {α : Type} {Q : α → zS → Prop} {a : α} {S : zS} (h : Q a S) : zk (some (a, S)) Q := ⟨a, S, rfl, h⟩
theorem zk_b {α β : Type} {m : Option (α × zS)} {f : α → zS → Option (β × zS)} {Q : α → zS → Prop} {R : β → zS → Prop} (h : zk m Q) (hf : ∀ a S, Q a S → zk (f a S) R) : zk (zb m f) R := by
  obtain ⟨a, S, e, q⟩ := h
  rw [e]
  exact hf a S q
theorem zk_w {α : Type} {m : Option (α × zS)} {Q R : α → zS → Prop} (h : zk m Q) (hw : ∀ a S, Q a S → R a S) : zk m R := by
  obtain ⟨a, S, e, q⟩ := h
  exact ⟨a, S, e, hw a S q⟩
theorem io_in {a N : Nat} (h : a < N) (hN : N ≤ 2147483648) : ia_in (Int32.ofNat a) N = true := by
  unfold ia_in
  rw [Int32.toInt_ofNat_of_lt (show a < 2 ^ 31 by omega)]
  exact decide_eq_true ⟨by omega, by omega⟩
theorem io_cl {a : Nat} (h : a < 2147483648) : (Int32.ofNat a).toNatClampNeg = a := Int32.toNatClampNeg_ofNat_of_lt h
theorem io_le {a b : Nat} (ha : a < 2147483648) (hb : b < 2147483648) : Int32.ofNat a ≤ Int32.ofNat b ↔ a ≤ b := Int32.ofNat_le_iff_le ha hb
theorem io_lt {a b : Nat} (ha : a < 2147483648) (hb : b < 2147483648) : Int32.ofNat a < Int32.ofNat b ↔ a < b := Int32.ofNat_lt_iff_lt ha hb
theorem io_eq {a b : Nat} (ha : a < 2147483648) (hb : b < 2147483648) : Int32.ofNat a = Int32.ofNat b ↔ a = b :=
  ⟨fun h => by rw [← io_cl ha, ← io_cl hb, h], fun h => by rw [h]⟩
theorem io_ne1 {a : Nat} (ha : a < 2147483648) : ¬ Int32.ofNat a = -1 := fun h => by
  have := congrArg Int32.toInt h
  rw [Int32.toInt_ofNat_of_lt (show a < 2 ^ 31 from ha)] at this
  have h2 : (-1 : Int32).toInt = -1 := by decide
  omega
theorem io_sc (a : Nat) : Int32.ofNat a + 1 = Int32.ofNat (a + 1) := by rw [Int32.ofNat_add]; rfl
/-- a number from 0 up to below n is one of the naturals -/
theorem io_of {x : Int32} {n : Nat} (hn : n < 2147483648) (h0 : ¬ x < 0) (h1 : x < Int32.ofNat n) : ∃ a, a < n ∧ x = Int32.ofNat a := by
  refine ⟨x.toNatClampNeg, ?_, (Int32.ofNat_toNatClampNeg x ?_).symm⟩
  · rw [Int32.lt_iff_toInt_lt, Int32.toInt_ofNat_of_lt (show n < 2 ^ 31 from hn)] at h1
    have h2 : (0 : Int32).toInt = 0 := by decide
    rw [Int32.lt_iff_toInt_lt, h2] at h0
    show x.toInt.toNat < n
    omega
  · exact Int32.not_lt.mp h0
theorem ix_c7_0 (a : Nat) : Int32.ofNat a * 7 + 0 = Int32.ofNat (7 * a) := by
  simp only [Int32.ofNat_add, Int32.ofNat_mul]
  first | rfl | (rw [Int32.mul_comm]; rfl) | (rw [Int32.add_zero, Int32.mul_comm]; rfl) | (rw [Int32.zero_add, Int32.mul_comm]; rfl) | (rw [Int32.zero_add, Int32.add_zero, Int32.mul_comm]; rfl) | (rw [Int32.mul_comm, Int32.add_assoc]; rfl)
theorem ix_c7_1 (a : Nat) : Int32.ofNat a * 7 + 1 = Int32.ofNat (7 * a + 1) := by
  simp only [Int32.ofNat_add, Int32.ofNat_mul]
  first | rfl | (rw [Int32.mul_comm]; rfl) | (rw [Int32.add_zero, Int32.mul_comm]; rfl) | (rw [Int32.zero_add, Int32.mul_comm]; rfl) | (rw [Int32.zero_add, Int32.add_zero, Int32.mul_comm]; rfl) | (rw [Int32.mul_comm, Int32.add_assoc]; rfl)
theorem ix_r7_1 (a : Nat) : 7 * Int32.ofNat a + 1 = Int32.ofNat (7 * a + 1) := by
  simp only [Int32.ofNat_add, Int32.ofNat_mul]
  first | rfl | (rw [Int32.mul_comm]; rfl) | (rw [Int32.add_zero, Int32.mul_comm]; rfl) | (rw [Int32.zero_add, Int32.mul_comm]; rfl) | (rw [Int32.zero_add, Int32.add_zero, Int32.mul_comm]; rfl) | (rw [Int32.mul_comm, Int32.add_assoc]; rfl)
theorem ix_c7_2 (a : Nat) : Int32.ofNat a * 7 + 2 = Int32.ofNat (7 * a + 2) := by
  simp only [Int32.ofNat_add, Int32.ofNat_mul]
  first | rfl | (rw [Int32.mul_comm]; rfl) | (rw [Int32.add_zero, Int32.mul_comm]; rfl) | (rw [Int32.zero_add, Int32.mul_comm]; rfl) | (rw [Int32.zero_add, Int32.add_zero, Int32.mul_comm]; rfl) | (rw [Int32.mul_comm, Int32.add_assoc]; rfl)
theorem ix_r7_2 (a : Nat) : 7 * Int32.ofNat a + 2 = Int32.ofNat (7 * a + 2) := by
  simp only [Int32.ofNat_add, Int32.ofNat_mul]
  first | rfl | (rw [Int32.mul_comm]; rfl) | (rw [Int32.add_zero, Int32.mul_comm]; rfl) | (rw [Int32.zero_add, Int32.mul_comm]; rfl) | (rw [Int32.zero_add, Int32.add_zero, Int32.mul_comm]; rfl) | (rw [Int32.mul_comm, Int32.add_assoc]; rfl)
theorem ix_c7_3 (a : Nat) : Int32.ofNat a * 7 + 3 = Int32.ofNat (7 * a + 3) := by
  simp only [Int32.ofNat_add, Int32.ofNat_mul]
  first | rfl | (rw [Int32.mul_comm]; rfl) | (rw [Int32.add_zero, Int32.mul_comm]; rfl) | (rw [Int32.zero_add, Int32.mul_comm]; rfl) | (rw [Int32.zero_add, Int32.add_zero, Int32.mul_comm]; rfl) | (rw [Int32.mul_comm, Int32.add_assoc]; rfl)
theorem ix_r7_3 (a : Nat) : 7 * Int32.ofNat a + 3 = Int32.ofNat (7 * a + 3) := by
  simp only [Int32.ofNat_add, Int32.ofNat_mul]
  first | rfl | (rw [Int32.mul_comm]; rfl) | (rw [Int32.add_zero, Int32.mul_comm]; rfl) | (rw [Int32.zero_add, Int32.mul_comm]; rfl) | (rw [Int32.zero_add, Int32.add_zero, Int32.mul_comm]; rfl) | (rw [Int32.mul_comm, Int32.add_assoc]; rfl)
theorem ix_c7_4 (a : Nat) : Int32.ofNat a * 7 + 4 = Int32.ofNat (7 * a + 4) := by
  simp only [Int32.ofNat_add, Int32.ofNat_mul]
  first | rfl | (rw [Int32.mul_comm]; rfl) | (rw [Int32.add_zero, Int32.mul_comm]; rfl) | (rw [Int32.zero_add, Int32.mul_comm]; rfl) | (rw [Int32.zero_add, Int32.add_zero, Int32.mul_comm]; rfl) | (rw [Int32.mul_comm, Int32.add_assoc]; rfl)
theorem ix_r7_4 (a : Nat) : 7 * Int32.ofNat a + 4 = Int32.ofNat (7 * a + 4) := by
  simp only [Int32.ofNat_add, Int32.ofNat_mul]
  first | rfl | (rw [Int32.mul_comm]; rfl) | (rw [Int32.add_zero, Int32.mul_comm]; rfl) | (rw [Int32.zero_add, Int32.mul_comm]; rfl) | (rw [Int32.zero_add, Int32.add_zero, Int32.mul_comm]; rfl) | (rw [Int32.mul_comm, Int32.add_assoc]; rfl)
theorem ix_c7_5 (a : Nat) : Int32.ofNat a * 7 + 5 = Int32.ofNat (7 * a + 5) := by
  simp only [Int32.ofNat_add, Int32.ofNat_mul]
  first | rfl | (rw [Int32.mul_comm]; rfl) | (rw [Int32.add_zero, Int32.mul_comm]; rfl) | (rw [Int32.zero_add, Int32.mul_comm]; rfl) | (rw [Int32.zero_add, Int32.add_zero, Int32.mul_comm]; rfl) | (rw [Int32.mul_comm, Int32.add_assoc]; rfl)
theorem ix_r7_5 (a : Nat) : 7 * Int32.ofNat a + 5 = Int32.ofNat (7 * a + 5) := by
  simp only [Int32.ofNat_add, Int32.ofNat_mul]
  first | rfl | (rw [Int32.mul_comm]; rfl) | (rw [Int32.add_zero, Int32.mul_comm]; rfl) | (rw [Int32.zero_add, Int32.mul_comm]; rfl) | (rw [Int32.zero_add, Int32.add_zero, Int32.mul_comm]; rfl) | (rw [Int32.mul_comm, Int32.add_assoc]; rfl)
theorem ix_c7_6 (a : Nat) : Int32.ofNat a * 7 + 6 = Int32.ofNat (7 * a + 6) := by
  simp only [Int32.ofNat_add, Int32.ofNat_mul]
  first | rfl | (rw [Int32.mul_comm]; rfl) | (rw [Int32.add_zero, Int32.mul_comm]; rfl) | (rw [Int32.zero_add, Int32.mul_comm]; rfl) | (rw [Int32.zero_add, Int32.add_zero, Int32.mul_comm]; rfl) | (rw [Int32.mul_comm, Int32.add_assoc]; rfl)
theorem ix_r7_6 (a : Nat) : 7 * Int32.ofNat a + 6 = Int32.ofNat (7 * a + 6) := by
  simp only [Int32.ofNat_add, Int32.ofNat_mul]
  first | rfl | (rw [Int32.mul_comm]; rfl) | (rw [Int32.add_zero, Int32.mul_comm]; rfl) | (rw [Int32.zero_add, Int32.mul_comm]; rfl) | (rw [Int32.zero_add, Int32.add_zero, Int32.mul_comm]; rfl) | (rw [Int32.mul_comm, Int32.add_assoc]; rfl)
theorem ix_r7_0 (a : Nat) : 7 * Int32.ofNat a = Int32.ofNat (7 * a) := by
  simp only [Int32.ofNat_add, Int32.ofNat_mul]
  first | rfl | (rw [Int32.mul_comm]; rfl) | (rw [Int32.add_zero, Int32.mul_comm]; rfl) | (rw [Int32.zero_add, Int32.mul_comm]; rfl) | (rw [Int32.zero_add, Int32.add_zero, Int32.mul_comm]; rfl) | (rw [Int32.mul_comm, Int32.add_assoc]; rfl)
theorem ix_c2_0 (a : Nat) : 28 + Int32.ofNat a * 2 + 0 = Int32.ofNat (28 + 2 * a) := by
  simp only [Int32.ofNat_add, Int32.ofNat_mul]
  first | rfl | (rw [Int32.mul_comm]; rfl) | (rw [Int32.add_zero, Int32.mul_comm]; rfl) | (rw [Int32.zero_add, Int32.mul_comm]; rfl) | (rw [Int32.zero_add, Int32.add_zero, Int32.mul_comm]; rfl) | (rw [Int32.mul_comm, Int32.add_assoc]; rfl)
theorem ix_c2_1 (a : Nat) : 28 + Int32.ofNat a * 2 + 1 = Int32.ofNat (28 + 2 * a + 1) := by
  simp only [Int32.ofNat_add, Int32.ofNat_mul]
  first | rfl | (rw [Int32.mul_comm]; rfl) | (rw [Int32.add_zero, Int32.mul_comm]; rfl) | (rw [Int32.zero_add, Int32.mul_comm]; rfl) | (rw [Int32.zero_add, Int32.add_zero, Int32.mul_comm]; rfl) | (rw [Int32.mul_comm, Int32.add_assoc]; rfl)
theorem ix_r2_0 (a : Nat) : 28 + 2 * Int32.ofNat a = Int32.ofNat (28 + 2 * a) := by
  simp only [Int32.ofNat_add, Int32.ofNat_mul]
  first | rfl | (rw [Int32.mul_comm]; rfl) | (rw [Int32.add_zero, Int32.mul_comm]; rfl) | (rw [Int32.zero_add, Int32.mul_comm]; rfl) | (rw [Int32.zero_add, Int32.add_zero, Int32.mul_comm]; rfl) | (rw [Int32.mul_comm, Int32.add_assoc]; rfl)
theorem ix_n1 (a : Nat) : Int32.ofNat a + 1 = Int32.ofNat (a + 1) := by
  simp only [Int32.ofNat_add, Int32.ofNat_mul]
  first | rfl | (rw [Int32.mul_comm]; rfl) | (rw [Int32.add_zero, Int32.mul_comm]; rfl) | (rw [Int32.zero_add, Int32.mul_comm]; rfl) | (rw [Int32.zero_add, Int32.add_zero, Int32.mul_comm]; rfl) | (rw [Int32.mul_comm, Int32.add_assoc]; rfl)
theorem ix_cl (a b : Nat) : 40 + Int32.ofNat a * 6 + Int32.ofNat b = Int32.ofNat (40 + 6 * a + b) := by
  simp only [Int32.ofNat_add, Int32.ofNat_mul]
  first | rfl | (rw [Int32.mul_comm]; rfl) | (rw [Int32.add_zero, Int32.mul_comm]; rfl) | (rw [Int32.zero_add, Int32.mul_comm]; rfl) | (rw [Int32.zero_add, Int32.add_zero, Int32.mul_comm]; rfl) | (rw [Int32.mul_comm, Int32.add_assoc]; rfl)
theorem ix_rl (a b : Nat) : 40 + 4 * Int32.ofNat a + Int32.ofNat b = Int32.ofNat (40 + 4 * a + b) := by
  simp only [Int32.ofNat_add, Int32.ofNat_mul]
  first | rfl | (rw [Int32.mul_comm]; rfl) | (rw [Int32.add_zero, Int32.mul_comm]; rfl) | (rw [Int32.zero_add, Int32.mul_comm]; rfl) | (rw [Int32.zero_add, Int32.add_zero, Int32.mul_comm]; rfl) | (rw [Int32.mul_comm, Int32.add_assoc]; rfl)
theorem ix_cj_0 (a : Nat) : 0 + Int32.ofNat a * 6 + 0 = Int32.ofNat (6 * a) := by
  simp only [Int32.ofNat_add, Int32.ofNat_mul]
  first | rfl | (rw [Int32.mul_comm]; rfl) | (rw [Int32.add_zero, Int32.mul_comm]; rfl) | (rw [Int32.zero_add, Int32.mul_comm]; rfl) | (rw [Int32.zero_add, Int32.add_zero, Int32.mul_comm]; rfl) | (rw [Int32.mul_comm, Int32.add_assoc]; rfl)
theorem ix_cj_1 (a : Nat) : 0 + Int32.ofNat a * 6 + 1 = Int32.ofNat (6 * a + 1) := by
  simp only [Int32.ofNat_add, Int32.ofNat_mul]
  first | rfl | (rw [Int32.mul_comm]; rfl) | (rw [Int32.add_zero, Int32.mul_comm]; rfl) | (rw [Int32.zero_add, Int32.mul_comm]; rfl) | (rw [Int32.zero_add, Int32.add_zero, Int32.mul_comm]; rfl) | (rw [Int32.mul_comm, Int32.add_assoc]; rfl)
theorem ix_rj_1 (a : Nat) : 6 * Int32.ofNat a + 1 = Int32.ofNat (6 * a + 1) := by
  simp only [Int32.ofNat_add, Int32.ofNat_mul]
  first | rfl | (rw [Int32.mul_comm]; rfl) | (rw [Int32.add_zero, Int32.mul_comm]; rfl) | (rw [Int32.zero_add, Int32.mul_comm]; rfl) | (rw [Int32.zero_add, Int32.add_zero, Int32.mul_comm]; rfl) | (rw [Int32.mul_comm, Int32.add_assoc]; rfl)
theorem ix_cj_2 (a : Nat) : 0 + Int32.ofNat a * 6 + 2 = Int32.ofNat (6 * a + 2) := by
  simp only [Int32.ofNat_add, Int32.ofNat_mul]
  first | rfl | (rw [Int32.mul_comm]; rfl) | (rw [Int32.add_zero, Int32.mul_comm]; rfl) | (rw [Int32.zero_add, Int32.mul_comm]; rfl) | (rw [Int32.zero_add, Int32.add_zero, Int32.mul_comm]; rfl) | (rw [Int32.mul_comm, Int32.add_assoc]; rfl)
theorem ix_rj_2 (a : Nat) : 6 * Int32.ofNat a + 2 = Int32.ofNat (6 * a + 2) := by
  simp only [Int32.ofNat_add, Int32.ofNat_mul]
  first | rfl | (rw [Int32.mul_comm]; rfl) | (rw [Int32.add_zero, Int32.mul_comm]; rfl) | (rw [Int32.zero_add, Int32.mul_comm]; rfl) | (rw [Int32.zero_add, Int32.add_zero, Int32.mul_comm]; rfl) | (rw [Int32.mul_comm, Int32.add_assoc]; rfl)
theorem ix_cj_3 (a : Nat) : 0 + Int32.ofNat a * 6 + 3 = Int32.ofNat (6 * a + 3) := by
  simp only [Int32.ofNat_add, Int32.ofNat_mul]
  first | rfl | (rw [Int32.mul_comm]; rfl) | (rw [Int32.add_zero, Int32.mul_comm]; rfl) | (rw [Int32.zero_add, Int32.mul_comm]; rfl) | (rw [Int32.zero_add, Int32.add_zero, Int32.mul_comm]; rfl) | (rw [Int32.mul_comm, Int32.add_assoc]; rfl)
theorem ix_rj_3 (a : Nat) : 6 * Int32.ofNat a + 3 = Int32.ofNat (6 * a + 3) := by
  simp only [Int32.ofNat_add, Int32.ofNat_mul]
  first | rfl | (rw [Int32.mul_comm]; rfl) | (rw [Int32.add_zero, Int32.mul_comm]; rfl) | (rw [Int32.zero_add, Int32.mul_comm]; rfl) | (rw [Int32.zero_add, Int32.add_zero, Int32.mul_comm]; rfl) | (rw [Int32.mul_comm, Int32.add_assoc]; rfl)
theorem ix_cj_4 (a : Nat) : 0 + Int32.ofNat a * 6 + 4 = Int32.ofNat (6 * a + 4) := by
  simp only [Int32.ofNat_add, Int32.ofNat_mul]
  first | rfl | (rw [Int32.mul_comm]; rfl) | (rw [Int32.add_zero, Int32.mul_comm]; rfl) | (rw [Int32.zero_add, Int32.mul_comm]; rfl) | (rw [Int32.zero_add, Int32.add_zero, Int32.mul_comm]; rfl) | (rw [Int32.mul_comm, Int32.add_assoc]; rfl)
theorem ix_rj_4 (a : Nat) : 6 * Int32.ofNat a + 4 = Int32.ofNat (6 * a + 4) := by
  simp only [Int32.ofNat_add, Int32.ofNat_mul]
  first | rfl | (rw [Int32.mul_comm]; rfl) | (rw [Int32.add_zero, Int32.mul_comm]; rfl) | (rw [Int32.zero_add, Int32.mul_comm]; rfl) | (rw [Int32.zero_add, Int32.add_zero, Int32.mul_comm]; rfl) | (rw [Int32.mul_comm, Int32.add_assoc]; rfl)
theorem ix_cj_5 (a : Nat) : 0 + Int32.ofNat a * 6 + 5 = Int32.ofNat (6 * a + 5) := by
  simp only [Int32.ofNat_add, Int32.ofNat_mul]
  first | rfl | (rw [Int32.mul_comm]; rfl) | (rw [Int32.add_zero, Int32.mul_comm]; rfl) | (rw [Int32.zero_add, Int32.mul_comm]; rfl) | (rw [Int32.zero_add, Int32.add_zero, Int32.mul_comm]; rfl) | (rw [Int32.mul_comm, Int32.add_assoc]; rfl)
theorem ix_rj_5 (a : Nat) : 6 * Int32.ofNat a + 5 = Int32.ofNat (6 * a + 5) := by
  simp only [Int32.ofNat_add, Int32.ofNat_mul]
  first | rfl | (rw [Int32.mul_comm]; rfl) | (rw [Int32.add_zero, Int32.mul_comm]; rfl) | (rw [Int32.zero_add, Int32.mul_comm]; rfl) | (rw [Int32.zero_add, Int32.add_zero, Int32.mul_comm]; rfl) | (rw [Int32.mul_comm, Int32.add_assoc]; rfl)
theorem ix_ch_0 (a : Nat) : 24 + Int32.ofNat a * 5 + 0 = Int32.ofNat (24 + 5 * a) := by
  simp only [Int32.ofNat_add, Int32.ofNat_mul]
  first | rfl | (rw [Int32.mul_comm]; rfl) | (rw [Int32.add_zero, Int32.mul_comm]; rfl) | (rw [Int32.zero_add, Int32.mul_comm]; rfl) | (rw [Int32.zero_add, Int32.add_zero, Int32.mul_comm]; rfl) | (rw [Int32.mul_comm, Int32.add_assoc]; rfl)
theorem ix_ch_1 (a : Nat) : 24 + Int32.ofNat a * 5 + 1 = Int32.ofNat (24 + (5 * a + 1)) := by
  simp only [Int32.ofNat_add, Int32.ofNat_mul]
  first | rfl | (rw [Int32.mul_comm]; rfl) | (rw [Int32.add_zero, Int32.mul_comm]; rfl) | (rw [Int32.zero_add, Int32.mul_comm]; rfl) | (rw [Int32.zero_add, Int32.add_zero, Int32.mul_comm]; rfl) | (rw [Int32.mul_comm, Int32.add_assoc]; rfl)
theorem ix_rh_1 (a : Nat) : 5 * Int32.ofNat a + 1 = Int32.ofNat (5 * a + 1) := by
  simp only [Int32.ofNat_add, Int32.ofNat_mul]
  first | rfl | (rw [Int32.mul_comm]; rfl) | (rw [Int32.add_zero, Int32.mul_comm]; rfl) | (rw [Int32.zero_add, Int32.mul_comm]; rfl) | (rw [Int32.zero_add, Int32.add_zero, Int32.mul_comm]; rfl) | (rw [Int32.mul_comm, Int32.add_assoc]; rfl)
theorem ix_ch_2 (a : Nat) : 24 + Int32.ofNat a * 5 + 2 = Int32.ofNat (24 + (5 * a + 2)) := by
  simp only [Int32.ofNat_add, Int32.ofNat_mul]
  first | rfl | (rw [Int32.mul_comm]; rfl) | (rw [Int32.add_zero, Int32.mul_comm]; rfl) | (rw [Int32.zero_add, Int32.mul_comm]; rfl) | (rw [Int32.zero_add, Int32.add_zero, Int32.mul_comm]; rfl) | (rw [Int32.mul_comm, Int32.add_assoc]; rfl)
theorem ix_rh_2 (a : Nat) : 5 * Int32.ofNat a + 2 = Int32.ofNat (5 * a + 2) := by
  simp only [Int32.ofNat_add, Int32.ofNat_mul]
  first | rfl | (rw [Int32.mul_comm]; rfl) | (rw [Int32.add_zero, Int32.mul_comm]; rfl) | (rw [Int32.zero_add, Int32.mul_comm]; rfl) | (rw [Int32.zero_add, Int32.add_zero, Int32.mul_comm]; rfl) | (rw [Int32.mul_comm, Int32.add_assoc]; rfl)
theorem ix_ch_3 (a : Nat) : 24 + Int32.ofNat a * 5 + 3 = Int32.ofNat (24 + (5 * a + 3)) := by
  simp only [Int32.ofNat_add, Int32.ofNat_mul]
  first | rfl | (rw [Int32.mul_comm]; rfl) | (rw [Int32.add_zero, Int32.mul_comm]; rfl) | (rw [Int32.zero_add, Int32.mul_comm]; rfl) | (rw [Int32.zero_add, Int32.add_zero, Int32.mul_comm]; rfl) | (rw [Int32.mul_comm, Int32.add_assoc]; rfl)
theorem ix_rh_3 (a : Nat) : 5 * Int32.ofNat a + 3 = Int32.ofNat (5 * a + 3) := by
  simp only [Int32.ofNat_add, Int32.ofNat_mul]
  first | rfl | (rw [Int32.mul_comm]; rfl) | (rw [Int32.add_zero, Int32.mul_comm]; rfl) | (rw [Int32.zero_add, Int32.mul_comm]; rfl) | (rw [Int32.zero_add, Int32.add_zero, Int32.mul_comm]; rfl) | (rw [Int32.mul_comm, Int32.add_assoc]; rfl)
theorem ix_ch_4 (a : Nat) : 24 + Int32.ofNat a * 5 + 4 = Int32.ofNat (24 + (5 * a + 4)) := by
  simp only [Int32.ofNat_add, Int32.ofNat_mul]
  first | rfl | (rw [Int32.mul_comm]; rfl) | (rw [Int32.add_zero, Int32.mul_comm]; rfl) | (rw [Int32.zero_add, Int32.mul_comm]; rfl) | (rw [Int32.zero_add, Int32.add_zero, Int32.mul_comm]; rfl) | (rw [Int32.mul_comm, Int32.add_assoc]; rfl)
theorem ix_rh_4 (a : Nat) : 5 * Int32.ofNat a + 4 = Int32.ofNat (5 * a + 4) := by
  simp only [Int32.ofNat_add, Int32.ofNat_mul]
  first | rfl | (rw [Int32.mul_comm]; rfl) | (rw [Int32.add_zero, Int32.mul_comm]; rfl) | (rw [Int32.zero_add, Int32.mul_comm]; rfl) | (rw [Int32.zero_add, Int32.add_zero, Int32.mul_comm]; rfl) | (rw [Int32.mul_comm, Int32.add_assoc]; rfl)
theorem ix_rh_0 (a : Nat) : 5 * Int32.ofNat a = Int32.ofNat (5 * a) := by
  simp only [Int32.ofNat_add, Int32.ofNat_mul]
  first | rfl | (rw [Int32.mul_comm]; rfl) | (rw [Int32.add_zero, Int32.mul_comm]; rfl) | (rw [Int32.zero_add, Int32.mul_comm]; rfl) | (rw [Int32.zero_add, Int32.add_zero, Int32.mul_comm]; rfl) | (rw [Int32.mul_comm, Int32.add_assoc]; rfl)
theorem ix_ct_0 (a : Nat) : 54 + Int32.ofNat a * 2 + 0 = Int32.ofNat (54 + 2 * a) := by
  simp only [Int32.ofNat_add, Int32.ofNat_mul]
  first | rfl | (rw [Int32.mul_comm]; rfl) | (rw [Int32.add_zero, Int32.mul_comm]; rfl) | (rw [Int32.zero_add, Int32.mul_comm]; rfl) | (rw [Int32.zero_add, Int32.add_zero, Int32.mul_comm]; rfl) | (rw [Int32.mul_comm, Int32.add_assoc]; rfl)
theorem ix_ct_1 (a : Nat) : 54 + Int32.ofNat a * 2 + 1 = Int32.ofNat (54 + (2 * a + 1)) := by
  simp only [Int32.ofNat_add, Int32.ofNat_mul]
  first | rfl | (rw [Int32.mul_comm]; rfl) | (rw [Int32.add_zero, Int32.mul_comm]; rfl) | (rw [Int32.zero_add, Int32.mul_comm]; rfl) | (rw [Int32.zero_add, Int32.add_zero, Int32.mul_comm]; rfl) | (rw [Int32.mul_comm, Int32.add_assoc]; rfl)
theorem ix_rt_0 (a : Nat) : 2 * Int32.ofNat a = Int32.ofNat (2 * a) := by
  simp only [Int32.ofNat_add, Int32.ofNat_mul]
  first | rfl | (rw [Int32.mul_comm]; rfl) | (rw [Int32.add_zero, Int32.mul_comm]; rfl) | (rw [Int32.zero_add, Int32.mul_comm]; rfl) | (rw [Int32.zero_add, Int32.add_zero, Int32.mul_comm]; rfl) | (rw [Int32.mul_comm, Int32.add_assoc]; rfl)
theorem ix_m2 (a : Nat) : 2 * Int32.ofNat a = Int32.ofNat (2 * a) := by
  simp only [Int32.ofNat_add, Int32.ofNat_mul]
  first | rfl | (rw [Int32.mul_comm]; rfl) | (rw [Int32.add_zero, Int32.mul_comm]; rfl) | (rw [Int32.zero_add, Int32.mul_comm]; rfl) | (rw [Int32.zero_add, Int32.add_zero, Int32.mul_comm]; rfl) | (rw [Int32.mul_comm, Int32.add_assoc]; rfl)
theorem ix_m4 (a : Nat) : 4 * Int32.ofNat a = Int32.ofNat (4 * a) := by
  simp only [Int32.ofNat_add, Int32.ofNat_mul]
  first | rfl | (rw [Int32.mul_comm]; rfl) | (rw [Int32.add_zero, Int32.mul_comm]; rfl) | (rw [Int32.zero_add, Int32.mul_comm]; rfl) | (rw [Int32.zero_add, Int32.add_zero, Int32.mul_comm]; rfl) | (rw [Int32.mul_comm, Int32.add_assoc]; rfl)
theorem ix_m5 (a : Nat) : 5 * Int32.ofNat a = Int32.ofNat (5 * a) := by
  simp only [Int32.ofNat_add, Int32.ofNat_mul]
  first | rfl | (rw [Int32.mul_comm]; rfl) | (rw [Int32.add_zero, Int32.mul_comm]; rfl) | (rw [Int32.zero_add, Int32.mul_comm]; rfl) | (rw [Int32.zero_add, Int32.add_zero, Int32.mul_comm]; rfl) | (rw [Int32.mul_comm, Int32.add_assoc]; rfl)
theorem ix_m6 (a : Nat) : 6 * Int32.ofNat a = Int32.ofNat (6 * a) := by
  simp only [Int32.ofNat_add, Int32.ofNat_mul]
  first | rfl | (rw [Int32.mul_comm]; rfl) | (rw [Int32.add_zero, Int32.mul_comm]; rfl) | (rw [Int32.zero_add, Int32.mul_comm]; rfl) | (rw [Int32.zero_add, Int32.add_zero, Int32.mul_comm]; rfl) | (rw [Int32.mul_comm, Int32.add_assoc]; rfl)
theorem ix_m7 (a : Nat) : 7 * Int32.ofNat a = Int32.ofNat (7 * a) := by
  simp only [Int32.ofNat_add, Int32.ofNat_mul]
  first | rfl | (rw [Int32.mul_comm]; rfl) | (rw [Int32.add_zero, Int32.mul_comm]; rfl) | (rw [Int32.zero_add, Int32.mul_comm]; rfl) | (rw [Int32.zero_add, Int32.add_zero, Int32.mul_comm]; rfl) | (rw [Int32.mul_comm, Int32.add_assoc]; rfl)
theorem ix_m10 (a : Nat) : 10 * Int32.ofNat a = Int32.ofNat (10 * a) := by
  simp only [Int32.ofNat_add, Int32.ofNat_mul]
  first | rfl | (rw [Int32.mul_comm]; rfl) | (rw [Int32.add_zero, Int32.mul_comm]; rfl) | (rw [Int32.zero_add, Int32.mul_comm]; rfl) | (rw [Int32.zero_add, Int32.add_zero, Int32.mul_comm]; rfl) | (rw [Int32.mul_comm, Int32.add_assoc]; rfl)
theorem ix_m16 (a : Nat) : 16 * Int32.ofNat a = Int32.ofNat (16 * a) := by
  simp only [Int32.ofNat_add, Int32.ofNat_mul]
  first | rfl | (rw [Int32.mul_comm]; rfl) | (rw [Int32.add_zero, Int32.mul_comm]; rfl) | (rw [Int32.zero_add, Int32.mul_comm]; rfl) | (rw [Int32.zero_add, Int32.add_zero, Int32.mul_comm]; rfl) | (rw [Int32.mul_comm, Int32.add_assoc]; rfl)
theorem ix_m66 (a : Nat) : 66 * Int32.ofNat a = Int32.ofNat (66 * a) := by
  simp only [Int32.ofNat_add, Int32.ofNat_mul]
  first | rfl | (rw [Int32.mul_comm]; rfl) | (rw [Int32.add_zero, Int32.mul_comm]; rfl) | (rw [Int32.zero_add, Int32.mul_comm]; rfl) | (rw [Int32.zero_add, Int32.add_zero, Int32.mul_comm]; rfl) | (rw [Int32.mul_comm, Int32.add_assoc]; rfl)
theorem ix_m200 (a : Nat) : 200 * Int32.ofNat a = Int32.ofNat (200 * a) := by
  simp only [Int32.ofNat_add, Int32.ofNat_mul]
  first | rfl | (rw [Int32.mul_comm]; rfl) | (rw [Int32.add_zero, Int32.mul_comm]; rfl) | (rw [Int32.zero_add, Int32.mul_comm]; rfl) | (rw [Int32.zero_add, Int32.add_zero, Int32.mul_comm]; rfl) | (rw [Int32.mul_comm, Int32.add_assoc]; rfl)
theorem ix_p1 (a : Nat) : Int32.ofNat a + 1 = Int32.ofNat (a + 1) := by
  simp only [Int32.ofNat_add, Int32.ofNat_mul]
  first | rfl | (rw [Int32.mul_comm]; rfl) | (rw [Int32.add_zero, Int32.mul_comm]; rfl) | (rw [Int32.zero_add, Int32.mul_comm]; rfl) | (rw [Int32.zero_add, Int32.add_zero, Int32.mul_comm]; rfl) | (rw [Int32.mul_comm, Int32.add_assoc]; rfl)
theorem ix_p2 (a : Nat) : Int32.ofNat a + 2 = Int32.ofNat (a + 2) := by
  simp only [Int32.ofNat_add, Int32.ofNat_mul]
  first | rfl | (rw [Int32.mul_comm]; rfl) | (rw [Int32.add_zero, Int32.mul_comm]; rfl) | (rw [Int32.zero_add, Int32.mul_comm]; rfl) | (rw [Int32.zero_add, Int32.add_zero, Int32.mul_comm]; rfl) | (rw [Int32.mul_comm, Int32.add_assoc]; rfl)
theorem ix_p3 (a : Nat) : Int32.ofNat a + 3 = Int32.ofNat (a + 3) := by
  simp only [Int32.ofNat_add, Int32.ofNat_mul]
  first | rfl | (rw [Int32.mul_comm]; rfl) | (rw [Int32.add_zero, Int32.mul_comm]; rfl) | (rw [Int32.zero_add, Int32.mul_comm]; rfl) | (rw [Int32.zero_add, Int32.add_zero, Int32.mul_comm]; rfl) | (rw [Int32.mul_comm, Int32.add_assoc]; rfl)
theorem ix_p4 (a : Nat) : Int32.ofNat a + 4 = Int32.ofNat (a + 4) := by
  simp only [Int32.ofNat_add, Int32.ofNat_mul]
  first | rfl | (rw [Int32.mul_comm]; rfl) | (rw [Int32.add_zero, Int32.mul_comm]; rfl) | (rw [Int32.zero_add, Int32.mul_comm]; rfl) | (rw [Int32.zero_add, Int32.add_zero, Int32.mul_comm]; rfl) | (rw [Int32.mul_comm, Int32.add_assoc]; rfl)
theorem ix_p5 (a : Nat) : Int32.ofNat a + 5 = Int32.ofNat (a + 5) := by
  simp only [Int32.ofNat_add, Int32.ofNat_mul]
  first | rfl | (rw [Int32.mul_comm]; rfl) | (rw [Int32.add_zero, Int32.mul_comm]; rfl) | (rw [Int32.zero_add, Int32.mul_comm]; rfl) | (rw [Int32.zero_add, Int32.add_zero, Int32.mul_comm]; rfl) | (rw [Int32.mul_comm, Int32.add_assoc]; rfl)
theorem ix_p6 (a : Nat) : Int32.ofNat a + 6 = Int32.ofNat (a + 6) := by
  simp only [Int32.ofNat_add, Int32.ofNat_mul]
  first | rfl | (rw [Int32.mul_comm]; rfl) | (rw [Int32.add_zero, Int32.mul_comm]; rfl) | (rw [Int32.zero_add, Int32.mul_comm]; rfl) | (rw [Int32.zero_add, Int32.add_zero, Int32.mul_comm]; rfl) | (rw [Int32.mul_comm, Int32.add_assoc]; rfl)
theorem ix_k10 (a : Nat) : 10 + Int32.ofNat a = Int32.ofNat (10 + a) := by
  simp only [Int32.ofNat_add, Int32.ofNat_mul]
  first | rfl | (rw [Int32.mul_comm]; rfl) | (rw [Int32.add_zero, Int32.mul_comm]; rfl) | (rw [Int32.zero_add, Int32.mul_comm]; rfl) | (rw [Int32.zero_add, Int32.add_zero, Int32.mul_comm]; rfl) | (rw [Int32.mul_comm, Int32.add_assoc]; rfl)
theorem ix_k20 (a : Nat) : 20 + Int32.ofNat a = Int32.ofNat (20 + a) := by
  simp only [Int32.ofNat_add, Int32.ofNat_mul]
  first | rfl | (rw [Int32.mul_comm]; rfl) | (rw [Int32.add_zero, Int32.mul_comm]; rfl) | (rw [Int32.zero_add, Int32.mul_comm]; rfl) | (rw [Int32.zero_add, Int32.add_zero, Int32.mul_comm]; rfl) | (rw [Int32.mul_comm, Int32.add_assoc]; rfl)
theorem ix_k28 (a : Nat) : 28 + Int32.ofNat a = Int32.ofNat (28 + a) := by
  simp only [Int32.ofNat_add, Int32.ofNat_mul]
  first | rfl | (rw [Int32.mul_comm]; rfl) | (rw [Int32.add_zero, Int32.mul_comm]; rfl) | (rw [Int32.zero_add, Int32.mul_comm]; rfl) | (rw [Int32.zero_add, Int32.add_zero, Int32.mul_comm]; rfl) | (rw [Int32.mul_comm, Int32.add_assoc]; rfl)
theorem ix_k30 (a : Nat) : 30 + Int32.ofNat a = Int32.ofNat (30 + a) := by
  simp only [Int32.ofNat_add, Int32.ofNat_mul]
  first | rfl | (rw [Int32.mul_comm]; rfl) | (rw [Int32.add_zero, Int32.mul_comm]; rfl) | (rw [Int32.zero_add, Int32.mul_comm]; rfl) | (rw [Int32.zero_add, Int32.add_zero, Int32.mul_comm]; rfl) | (rw [Int32.mul_comm, Int32.add_assoc]; rfl)
theorem ix_k40 (a : Nat) : 40 + Int32.ofNat a = Int32.ofNat (40 + a) := by
  simp only [Int32.ofNat_add, Int32.ofNat_mul]
  first | rfl | (rw [Int32.mul_comm]; rfl) | (rw [Int32.add_zero, Int32.mul_comm]; rfl) | (rw [Int32.zero_add, Int32.mul_comm]; rfl) | (rw [Int32.zero_add, Int32.add_zero, Int32.mul_comm]; rfl) | (rw [Int32.mul_comm, Int32.add_assoc]; rfl)
theorem ix_k100 (a : Nat) : 100 + Int32.ofNat a = Int32.ofNat (100 + a) := by
  simp only [Int32.ofNat_add, Int32.ofNat_mul]
  first | rfl | (rw [Int32.mul_comm]; rfl) | (rw [Int32.add_zero, Int32.mul_comm]; rfl) | (rw [Int32.zero_add, Int32.mul_comm]; rfl) | (rw [Int32.zero_add, Int32.add_zero, Int32.mul_comm]; rfl) | (rw [Int32.mul_comm, Int32.add_assoc]; rfl)
theorem ix_k1000 (a : Nat) : 1000 + Int32.ofNat a = Int32.ofNat (1000 + a) := by
  simp only [Int32.ofNat_add, Int32.ofNat_mul]
  first | rfl | (rw [Int32.mul_comm]; rfl) | (rw [Int32.add_zero, Int32.mul_comm]; rfl) | (rw [Int32.zero_add, Int32.mul_comm]; rfl) | (rw [Int32.zero_add, Int32.add_zero, Int32.mul_comm]; rfl) | (rw [Int32.mul_comm, Int32.add_assoc]; rfl)
theorem ix_aa (a b : Nat) : Int32.ofNat a + Int32.ofNat b = Int32.ofNat (a + b) := (Int32.ofNat_add a b).symm
end MA
