/-! What a tool saves. -/
section ND
variable {d M nj nh nt : Nat} {A B : zS}
theorem r_savesL {W : zLw} {t : Nat} (ht : t < 4) (htn : t < nt) (n4 : nj ≤ 4) (n6 : nh ≤ 6) (i2 : Int32) : ∀ (m h j f : Nat) (c : Int32) (B : zS) (ex : Int32 → Int32 → Int32 → zS → Option (Int32 × zS)), h < nh → j ≤ nj → (nh - 1 - h) * (nj + 1) + (nj - j) = m → m < f → B.1 41 24 = Int32.ofNat nj → B.1 41 25 = Int32.ofNat nh → LawR B W → ToldB nj nh nt (B.1 46) (B.1 48) (B.1 50) →
    ∃ B', f_X12_saves_L48 ex (Int32.ofNat t) i2 f c (Int32.ofNat h) (Int32.ofNat j) B = ex (c + Int32.ofNat (S2 (fun x => svN W (B.1 46) (B.1 48) (B.1 50) t h x) (nj - j) j + S2 (fun h => S2 (fun x => svN W (B.1 46) (B.1 48) (B.1 50) t h x) nj 0) (nh - 1 - h) (h + 1))) (Int32.ofNat nh) (Int32.ofNat nj) B' ∧ sameR B B' := by
  intro m
  induction m using Nat.strongRecOn with
  | _ m ih =>
    intro h j f c B ex hh hj hm hf e24 e25 w2 TB
    obtain ⟨f, rfl⟩ : ∃ g, f = g + 1 := ⟨f - 1, by omega⟩
    unfold f_X12_saves_L48
    by_cases he : j = nj
    · subst he
      rw [e24, if_pos (Int32.le_refl _), zlE, io_sc, e25]
      by_cases hl : h + 1 = nh
      · rw [hl, if_pos (Int32.le_refl _), show j - j = 0 by omega, show nh - 1 - h = 0 by omega]
        refine ⟨B, ?_, sameR.rfl' B⟩
        show ex c _ _ B = ex (c + Int32.ofNat (0 + 0)) _ _ B
        rw [show c + Int32.ofNat (0 + 0) = c from Int32.add_zero c]
      · have q2 : ¬ Int32.ofNat nh ≤ Int32.ofNat (h + 1) := fun q => by have := (io_le (by omega) (by omega)).mp q; omega
        rw [if_neg q2]
        have em : (nh - 1 - h) * (j + 1) = (nh - 1 - (h + 1)) * (j + 1) + (j + 1) := by
          rw [show nh - 1 - h = (nh - 1 - (h + 1)) + 1 by omega, Nat.add_mul, Nat.one_mul]
        obtain ⟨B', z1, z2⟩ := ih ((nh - 1 - (h + 1)) * (j + 1) + (j - 0)) (by omega) (h + 1) 0 f c B ex (by omega) (by omega) rfl (by omega) e24 e25 w2 TB
        refine ⟨B', ?_, z2⟩
        rw [show j - j = 0 by omega, show nh - 1 - h = (nh - 1 - (h + 1)) + 1 by omega]
        show _ = ex (c + Int32.ofNat (0 + (S2 (fun x => svN W (B.1 46) (B.1 48) (B.1 50) t (h + 1) x) j 0 + S2 (fun h => S2 (fun x => svN W (B.1 46) (B.1 48) (B.1 50) t h x) j 0) (nh - 1 - (h + 1)) (h + 1 + 1)))) _ _ B'
        rw [Nat.zero_add]
        exact z1
    · have q1 : ¬ Int32.ofNat nj ≤ Int32.ofNat j := fun q => by have := (io_le (by omega) (by omega)).mp q; omega
      have i6 : ia_in (6 * Int32.ofNat j) 24 = true := by simp (disch := omega) only [ix_m6, io_in]
      have c6 : (6 * Int32.ofNat j).toNatClampNeg = 6 * j := by simp (disch := omega) only [ix_m6, io_cl]
      obtain ⟨B1, g1, s1⟩ := r_opensTold w2 (h := h) (j := j) (t := some t) (by omega) (by omega) (fun k hk => by cases hk; omega) (tBd_of TB hh (by omega) (fun k hk => by cases hk; omega)) (B.1 46 (6 * j))
      have g1' : f_X12_opensTold (Int32.ofNat h) (Int32.ofNat t) (Int32.ofNat j) (B.1 46 (6 * j)) B = _ := g1
      have w21 : LawR B1 W := w2.of (s1.2.1 35 (by decide) (by decide)) (s1.1 43 (by decide) (by decide)) (s1.1 44 (by decide) (by decide))
      have x46 : B1.1 46 = B.1 46 := s1.1 46 (by decide) (by decide)
      have x48 : B1.1 48 = B.1 48 := s1.1 48 (by decide) (by decide)
      have x50 : B1.1 50 = B.1 50 := s1.1 50 (by decide) (by decide)
      have x24 : B1.1 41 24 = Int32.ofNat nj := by rw [s1.2.1 24 (by decide) (by decide)]; exact e24
      have x25 : B1.1 41 25 = Int32.ofNat nh := by rw [s1.2.1 25 (by decide) (by decide)]; exact e25
      obtain ⟨B2, g2, s2⟩ := r_opensTold w21 (h := h) (j := j) (t := none) (by omega) (by omega) (fun k hk => by cases hk) (by rw [x46, x48, x50]; exact tBd_of TB hh (by omega) (fun k hk => by cases hk)) (B.1 46 (6 * j))
      have g2' : f_X12_opensTold (Int32.ofNat h) (-1) (Int32.ofNat j) (B.1 46 (6 * j)) B1 = _ := g2
      have s12 := s1.tr s2
      have w22 : LawR B2 W := w2.of (s12.2.1 35 (by decide) (by decide)) (s12.1 43 (by decide) (by decide)) (s12.1 44 (by decide) (by decide))
      have y46 : B2.1 46 = B.1 46 := s12.1 46 (by decide) (by decide)
      have y48 : B2.1 48 = B.1 48 := s12.1 48 (by decide) (by decide)
      have y50 : B2.1 50 = B.1 50 := s12.1 50 (by decide) (by decide)
      have y24 : B2.1 41 24 = Int32.ofNat nj := by rw [s12.2.1 24 (by decide) (by decide)]; exact e24
      have y25 : B2.1 41 25 = Int32.ofNat nh := by rw [s12.2.1 25 (by decide) (by decide)]; exact e25
      rw [e24, if_neg q1, if_pos i6, c6, g1', zbE, x46]
      simp only [zlE, io_sc]
      rw [if_pos i6, g2', x46, x48, x50]
      have enj : nj - j = (nj - (j + 1)) + 1 := by omega
      rw [enj]
      show ∃ B', _ = ex (c + Int32.ofNat (svN W (B.1 46) (B.1 48) (B.1 50) t h j + S2 (fun x => svN W (B.1 46) (B.1 48) (B.1 50) t h x) (nj - (j + 1)) (j + 1) + _)) _ _ B' ∧ _
      by_cases c1 : gripT W (B.1 46) (B.1 48) (B.1 50) h (some t) j < B.1 46 (6 * j) + B.1 46 (6 * j + 1) + 2 * B.1 46 (6 * j + 2)
      · have e0 : svN W (B.1 46) (B.1 48) (B.1 50) t h j = 0 := if_pos c1
        rw [if_pos c1, if_pos rfl, e0, Nat.zero_add, Int32.add_zero]
        obtain ⟨B', z1, z2⟩ := ih ((nh - 1 - h) * (nj + 1) + (nj - (j + 1))) (by omega) h (j + 1) f c B1 ex hh (by omega) rfl (by omega) x24 x25 w21 (by rw [x46, x48, x50]; exact TB)
        rw [x46, x48, x50] at z1
        exact ⟨B', z1, s1.tr z2⟩
      · rw [if_neg c1, if_neg n10, zbE]
        by_cases c2 : B.1 46 (6 * j) + B.1 46 (6 * j + 1) + 2 * B.1 46 (6 * j + 2) ≤ gripT W (B.1 46) (B.1 48) (B.1 50) h none j
        · have e0 : svN W (B.1 46) (B.1 48) (B.1 50) t h j = 0 := by unfold svN; rw [if_neg c1, if_pos c2]
          rw [if_neg (Int32.not_lt.mpr c2), if_pos n10, e0, Nat.zero_add, Int32.add_zero]
          obtain ⟨B', z1, z2⟩ := ih ((nh - 1 - h) * (nj + 1) + (nj - (j + 1))) (by omega) h (j + 1) f c B2 ex hh (by omega) rfl (by omega) y24 y25 w22 (by rw [y46, y48, y50]; exact TB)
          rw [y46, y48, y50] at z1
          exact ⟨B', z1, s12.tr z2⟩
        · have e0 : svN W (B.1 46) (B.1 48) (B.1 50) t h j = 1 := by unfold svN; rw [if_neg c1, if_neg c2]
          rw [if_pos (Int32.not_le.mp c2), if_neg n00, e0, Nat.add_assoc, ← io_add0]
          obtain ⟨B', z1, z2⟩ := ih ((nh - 1 - h) * (nj + 1) + (nj - (j + 1))) (by omega) h (j + 1) f (c + 1) B2 ex hh (by omega) rfl (by omega) y24 y25 w22 (by rw [y46, y48, y50]; exact TB)
          rw [y46, y48, y50] at z1
          exact ⟨B', z1, s12.tr z2⟩
/-- Euclid -/
def eu : Nat → Nat → Nat → Option Nat
  | 0, _, _ => none
  | k + 1, a, b => if b = 0 then some a else eu k b (a % b)
def euT (a b : Nat) : Bool := match eu 17 a b with
  | none => false
  | some v => v < 100 && v != 0
def euT2 : Nat → Nat → Bool
  | _, 0 => true
  | a, b + 1 => euT a (b + 1) && euT2 a b
def euT1 : Nat → Bool
  | 0 => true
  | a + 1 => euT2 a 24 && euT1 a
theorem euT1_all : euT1 100 = true := by decide +kernel
theorem euT2_of {a : Nat} : ∀ n, euT2 a n = true → ∀ b, 1 ≤ b → b ≤ n → euT a b = true
  | 0, _, b, h1, h2 => absurd h1 (by omega)
  | n + 1, h, b, h1, h2 => by
    unfold euT2 at h
    rw [Bool.and_eq_true] at h
    by_cases hb : b = n + 1
    · rw [hb]; exact h.1
    · exact euT2_of n h.2 b h1 (by omega)
theorem euT1_of : ∀ n, euT1 n = true → ∀ a, a < n → euT2 a 24 = true
  | 0, _, a, h => absurd h (by omega)
  | n + 1, h, a, ha => by
    unfold euT1 at h
    rw [Bool.and_eq_true] at h
    by_cases hb : a = n
    · rw [hb]; exact h.1
    · exact euT1_of n h.2 a (by omega)
theorem eu_ex {a b : Nat} (ha : a < 100) (h1 : 1 ≤ b) (h2 : b ≤ 24) : ∃ v, eu 17 a b = some v ∧ v < 100 ∧ v ≠ 0 := by
  have h := euT2_of 24 (euT1_of 100 euT1_all a ha) b h1 h2
  unfold euT at h
  cases hv : eu 17 a b with
  | none => rw [hv] at h; cases h
  | some v =>
    rw [hv] at h
    simp only [Bool.and_eq_true, decide_eq_true_eq, bne_iff_ne] at h
    exact ⟨v, rfl, h.1, h.2⟩
theorem io_mod {a b : Nat} (ha : a < 1000) (hb : b < 1000) (h0 : b ≠ 0) : Int32.ofNat a - Int32.ofNat a / Int32.ofNat b * Int32.ofNat b = Int32.ofNat (a % b) := by
  have e : Int32.ofNat a / Int32.ofNat b = Int32.ofNat (a / b) := by
    apply ti_ofn
    rw [ti_div (by rw [ti_nat (by omega)]; omega) (by omega) h0, ti_nat (by omega)]
    rfl
  have l : a / b * b ≤ a := Nat.div_mul_le_self a b
  rw [e, ← Int32.ofNat_mul, ← Int32.ofNat_sub _ _ l]
  congr 1
  have := Nat.div_add_mod a b
  rw [Nat.mul_comm] at this
  omega
theorem io_n0 {b : Nat} (hb : b < 1000) (h0 : b ≠ 0) : ¬ Int32.ofNat b = 0 := fun q => h0 ((io_eq (b := 0) (by omega) (by omega)).mp q)
theorem r_common : ∀ (g a b v : Nat) (B : zS), a < 1000 → b < 1000 → eu g a b = some v → f_X12_common_g g (Int32.ofNat a) (Int32.ofNat b) B = some (Int32.ofNat v, B)
  | 0, _, _, _, _, _, _, h => by cases h
  | g + 1, a, b, v, B, ha, hb, h => by
    show f_X12_common_o (f_X12_common_g g) _ _ _ = _
    unfold f_X12_common_o
    unfold eu at h
    by_cases h0 : b = 0
    · subst h0
      rw [if_pos rfl] at h
      cases h
      rw [if_neg (fun q => q rfl)]
    · rw [if_neg h0] at h
      have hm : a % b < b := Nat.mod_lt _ (by omega)
      rw [if_pos (io_n0 hb h0), if_neg (io_n0 hb h0), io_mod ha hb h0, r_common g b (a % b) v B hb (by omega) h, zbE]
theorem c_common {i0 i1 : Int32} : ∀ (g a b v x f : Nat) (A : zS), a < 1000 → b < 1000 → eu g a b = some v → x + g ≤ 100 → g ≤ f → f_X11_commonDivisor_L7 (fun (q7 : Int32) (q8 : Int32) (q9 : Int32) (S6 : zS) => some (q7, S6)) i0 i1 f (Int32.ofNat a) (Int32.ofNat b) (Int32.ofNat x) A = some (Int32.ofNat v, A)
  | 0, _, _, _, _, _, _, _, _, h, _, _ => by cases h
  | g + 1, a, b, v, x, f, A, ha, hb, h, hx, hf => by
    obtain ⟨f, rfl⟩ : ∃ g, f = g + 1 := ⟨f - 1, by omega⟩
    have q1 : ¬ (100 : Int32) ≤ Int32.ofNat x := fun q => by have := (io_le (a := 100) (by omega) (by omega)).mp q; omega
    unfold f_X11_commonDivisor_L7
    unfold eu at h
    rw [if_neg q1]
    by_cases h0 : b = 0
    · subst h0
      rw [if_pos rfl] at h
      cases h
      rw [if_pos (show Int32.ofNat 0 = 0 from rfl)]
    · rw [if_neg h0] at h
      have hm : a % b < b := Nat.mod_lt _ (by omega)
      rw [if_neg (io_n0 hb h0), if_neg (io_n0 hb h0), io_mod ha hb h0, zlE, zlE, io_sc]
      exact c_common g b (a % b) v (x + 1) f A hb (by omega) h (by omega) (by omega)
theorem c_saved {W : zLw} {t : Nat} (ht : t < nt) (T : ITold nj nh nt A B) (w1 : LawC A W) (hS : SpV nj nh A) :
    ∃ A', f_X11_pairsSaved_L11 (fun (q33 : Int32) (q34 : Int32) (S32 : zS) => some (q33, S32)) (Int32.ofNat t) zN 0 0 A = some (Int32.ofNat (S2 (fun j => S2 (fun i => svN W (B.1 46) (B.1 48) (B.1 50) t i j) nh 0) nj 0), A') ∧ sameC A A' := by
  have T' := T
  obtain ⟨t1, t2, t3, t4, t5, t6, t7, t8, t9, t10, t11⟩ := T
  have n4 := t11.1
  have n6 := t11.2.1
  obtain ⟨z, hz⟩ : ∃ z, zN = z + 1 := ⟨4999, rfl⟩
  rw [hz]
  rw [f_X11_pairsSaved_L11, t1]
  by_cases h0 : nj = 0
  · subst h0
    rw [if_pos (show Int32.ofNat 0 ≤ 0 by decide)]
    exact ⟨A, rfl, sameC.rfl' A⟩
  · have q : ¬ Int32.ofNat nj ≤ 0 := fun q => by have := (io_le (b := 0) (by omega) (by omega)).mp q; omega
    have eh : f_X7_hold 19 0 A = some (B.1 46 (6 * 0) + B.1 46 (6 * 0 + 1) + 2 * B.1 46 (6 * 0 + 2), A) := by
      have e := c_hold (o := 19) (j := 0) (S := A) (by omega)
      rw [show f_X7_hold 19 0 A = _ from e]
      unfold holdM
      rw [show 19 + 1 = 20 from rfl, hS.2 0 (by omega), (hS.1.1 0 (by omega)).1, (hS.1.1 0 (by omega)).2, t8 (6 * 0) (by omega), t8 (6 * 0 + 1) (by omega), t8 (6 * 0 + 2) (by omega)]
    have hm : (nj - 1 - 0) * (nh + 1) ≤ 3 * 7 := Nat.mul_le_mul (by omega) (by omega)
    obtain ⟨A', x, y, z1, z2⟩ := c_savedL (nj := nj) (nh := nh) (nt := nt) (B := B) (W := W) ht _ 0 0 zN 0 A (fun (q28 : Int32) (q29 : Int32) (q30 : Int32) (q31 : Int32) (S27 : zS) => some (q28, S27)) (by omega) (by omega) rfl (by unfold zN; omega) T' w1 hS
    refine ⟨A', ?_, z2⟩
    rw [if_neg q, eh, zbE]
    refine z1.trans ?_
    obtain ⟨k, rfl⟩ : ∃ k, nj = k + 1 := ⟨nj - 1, by omega⟩
    rw [Int32.zero_add]
    rfl
theorem r_saved {W : zLw} {t : Nat} (ht : t < 4) (htn : t < nt) (TB : ToldB nj nh nt (B.1 46) (B.1 48) (B.1 50)) (n4 : nj ≤ 4) (n6 : nh ≤ 6) (v2 : Int32) (e24 : B.1 41 24 = Int32.ofNat nj) (e25 : B.1 41 25 = Int32.ofNat nh) (w2 : LawR B W) {ex : Int32 → Int32 → zS → Option (Int32 × zS)} {V : Int32 → zS → Option (Int32 × zS)} (hex : ∀ x y S, ex x y S = V x S) :
    ∃ B', f_X12_saves_L36 ex (Int32.ofNat t) v2 zN 0 0 B = V (Int32.ofNat (S2 (fun h => S2 (fun j => svN W (B.1 46) (B.1 48) (B.1 50) t h j) nj 0) nh 0)) B' ∧ sameR B B' := by
  obtain ⟨z, hz⟩ : ∃ z, zN = z + 1 := ⟨4999, rfl⟩
  rw [hz]
  rw [f_X12_saves_L36, e25]
  by_cases h0 : nh = 0
  · subst h0
    rw [if_pos (show Int32.ofNat 0 ≤ 0 by decide), hex]
    exact ⟨B, rfl, sameR.rfl' B⟩
  · have q : ¬ Int32.ofNat nh ≤ 0 := fun q => by have := (io_le (b := 0) (by omega) (by omega)).mp q; omega
    have hm : (nh - 1 - 0) * (nj + 1) ≤ 5 * 5 := Nat.mul_le_mul (by omega) (by omega)
    obtain ⟨B', z1, z2⟩ := r_savesL (nj := nj) (nh := nh) (nt := nt) (W := W) ht htn n4 n6 v2 _ 0 0 zN 0 B (fun (q29 : Int32) (q30 : Int32) (q31 : Int32) (S28 : zS) => ex q29 q30 S28) (by omega) (by omega) rfl (by unfold zN; omega) e24 e25 w2 TB
    refine ⟨B', ?_, z2⟩
    rw [if_neg q]
    refine z1.trans ?_
    obtain ⟨k, rfl⟩ : ∃ k, nh = k + 1 := ⟨nh - 1, by omega⟩
    rw [Int32.zero_add, hex]
    rfl
theorem op_saves (H : InvD 0 M nj nh nt A B) (hM : M < 900000) (v1 v2 : Int32) : Sim M (f_X11_saves v1 v2 A) (f_X12_saves v1 v2 B) := by
  have H0 := H.thr 0
  unfold f_X11_saves f_X12_saves
  rw [zlE]
  generalize sV B 41 0 0 = B0 at H0 ⊢
  obtain ⟨t1, t2, t3, t4, t5, t6, t7, t8, t9, t10, t11⟩ := H0.told
  have n4 := t11.1
  have n6 := t11.2.1
  have n44 := t11.2.2.1
  have e0 : (0 : Int64).toInt = 0 := by decide
  have e9 : (2 : Int64).toInt = 2 := by decide
  have f9 : (2 : Int32).toInt = 2 := by decide
  have m1 : (-1 : Int32) < 0 := by decide
  rcases isTool2 t3 t6 (by omega) v1 with ⟨t, ht, rfl, e2, e3⟩ | ⟨e2, e3⟩
  case inr =>
    have q : v1 < 0 ∨ Int32.ofNat nt ≤ v1 := by
      by_cases q1 : v1 < 0
      · exact Or.inl q1
      · refine Or.inr (Int32.not_lt.mp fun q2 => ?_)
        obtain ⟨a, ha, rfl⟩ := io_of (by omega) q1 q2
        unfold f_X11_isTool at e2
        rw [t3, if_neg (fun q => by have := Int32.lt_trans q m1; exact q1 this), if_neg (fun q => by have := (io_le (by omega) (by omega)).mp q; omega)] at e2
        exact absurd (congrArg Prod.fst (Option.some.inj e2)) n10
    rw [e2, zbE, if_pos rfl, t6]
    have eC : (if v1 = -1 then some ((-1 : Int32), A) else some (-1, A)) = some (-1, A) := by split <;> rfl
    rw [eC]
    rcases q with q | q
    · rw [if_pos q]
      exact Sim.no H0 _
    · rw [if_pos q]
      have eR : ∀ X : Option (Int32 × zS), (if v1 < 0 then some ((-1 : Int32), B0) else some (-1, B0)) = some (-1, B0) := fun _ => by split <;> rfl
      rw [eR none]
      exact Sim.no H0 _
  cases t with
  | none =>
    rw [show toolV none = -1 from rfl, if_pos rfl, if_pos m1]
    exact Sim.no H0 _
  | some t =>
    have hk := ht t rfl
    have q0 : ¬ Int32.ofNat t < 0 := fun q => by rw [i_lt0, ti_nat (by omega)] at q; omega
    have q1 : ¬ Int32.ofNat nt ≤ Int32.ofNat t := fun q => by have := (io_le (by omega) (by omega)).mp q; omega
    rw [show toolV (some t) = Int32.ofNat t from rfl] at e2 ⊢
    rw [if_neg (io_ne1 (by omega)), e2, zbE, if_neg n10, if_neg q0, t6, if_neg q1, if_rng', r_isIn, zbE, e0, e9, ti_0, f9]
    by_cases hv : 0 ≤ v2.toInt ∧ v2.toInt ≤ 2
    case neg =>
      rw [if_neg hv, if_neg hv, if_neg n00]
      exact Sim.no H0 _
    rw [if_pos hv, if_pos hv, if_pos n10]
    obtain ⟨A1, r1, H1, hS, hS2⟩ := rest2 H0
    obtain ⟨W, w1, w2⟩ := H1.law
    obtain ⟨A2, g1, sA⟩ := c_saved (W := W) hk H1.told w1 ⟨hS, hS2⟩
    have i1 : ia_in ((2 * Int32.ofNat t) + 1) 8 = true := by simp (disch := omega) only [ix_m2, ix_p1, io_in]
    have c1 : ((2 * Int32.ofNat t) + 1).toNatClampNeg = 2 * t + 1 := by simp (disch := omega) only [ix_m2, ix_p1, io_cl]
    unfold f_X11_pairsSaved
    rw [r1, zbE, g1, zbE]
    obtain ⟨B2, g2, sB⟩ := r_saved (nj := nj) (nh := nh) (nt := nt) (W := W) (t := t) (B := B0) (by omega) hk t11 n4 n6 v2 t4 t5 w2 (fun _ _ _ => rfl) (V := fun q33 S32 => if ¬ v2 = 0 then if ¬ q33 = 0 then if ia_in ((2 * Int32.ofNat t) + 1) 8 = true then zb (f_X12_common (S32.1 50 ((2 * Int32.ofNat t) + 1).toNatClampNeg) q33 S32) fun r39 S38 => if ¬ v2 = 1 then if r39 = 0 then none else some (q33 / r39, S38) else if ia_in ((2 * Int32.ofNat t) + 1) 8 = true then if r39 = 0 then none else some ((S38.1 50 ((2 * Int32.ofNat t) + 1).toNatClampNeg) / r39, S38) else none else none else some ((-1), S32) else some (q33, S32))
    rw [g2, S2_swap]
    have H2 := H1.obs (obsC_same sA H1.longC) (obsR_same sB H1.longR)
    have hle : S2 (fun h => S2 (fun j => svN W (B0.1 46) (B0.1 48) (B0.1 50) t h j) nj 0) nh 0 ≤ 24 := by
      have a := S2_le (c := nj * 1) (f := fun h => S2 (fun j => svN W (B0.1 46) (B0.1 48) (B0.1 50) t h j) nj 0) (fun h => S2_le (fun j => svN_le W _ _ _ t h j) nj 0) nh 0
      have b : nh * (nj * 1) ≤ 6 * 4 := Nat.mul_le_mul n6 (by omega)
      omega
    generalize S2 (fun h => S2 (fun j => svN W (B0.1 46) (B0.1 48) (B0.1 50) t h j) nj 0) nh 0 = n at hle ⊢
    by_cases v0 : v2 = 0
    · rw [if_neg (fun q => q v0), if_neg (fun q => q v0)]
      exact sim_fin H2 (by omega) rfl
    rw [if_pos v0, if_pos v0]
    by_cases hn : n = 0
    · subst hn
      rw [if_neg (fun q => q rfl), if_neg (fun q => q rfl)]
      exact sim_fin H2 (by omega) rfl
    have hn0 := io_n0 (b := n) (by omega) hn
    have b50 : B2.1 50 = B0.1 50 := sB.1 50 (by decide) (by decide)
    obtain ⟨u1, u2, u3, u4, u5, u6, u7, u8, u9, u10, u11⟩ := H2.told
    have hp := (u11.2.2.2.2.2.2.2 t hk).2
    have ep := ti_ofn (x := B2.1 50 (2 * t + 1)) (n := (B2.1 50 (2 * t + 1)).toInt.toNat) (by unfold bd at hp; omega)
    have lp : (B2.1 50 (2 * t + 1)).toInt.toNat < 100 := by unfold bd at hp; omega
    rw [if_pos hn0, if_pos hn0, c_item2_1 (by omega), zbE, if_pos i1, c1, u10 (2 * t + 1) (by omega)]
    generalize (B2.1 50 (2 * t + 1)).toInt.toNat = p at ep lp
    obtain ⟨v, ev, v3, v4⟩ := eu_ex (b := n) lp (by omega) hle
    have hv0 := io_n0 (b := v) (by omega) v4
    unfold f_X11_commonDivisor f_X12_common
    rw [ep, show f_X12_common_o (f_X12_common_g 16) = f_X12_common_g 17 from rfl, r_common 17 p n v B2 (by omega) (by omega) ev, zbE, show (0 : Int32) = Int32.ofNat 0 from rfl, c_common 17 p n v 0 zN A2 (by omega) (by omega) ev (by omega) (by unfold zN; omega), zbE, show Int32.ofNat 0 = 0 from rfl, if_pos hv0]
    by_cases v1 : v2 = 1
    · subst v1
      simp only [hv0, i1, if_true, if_false, not_true_eq_false, c1, ep]
      exact sim_fin H2 (by omega) rfl
    · rw [if_pos v1, if_pos v1, if_neg hv0, if_neg hv0]
      exact sim_fin H2 (by omega) rfl
end ND
