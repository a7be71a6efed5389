/-! A jar; what a tool saves. -/
section NC
variable {d M nj nh nt : Nat} {A B : zS}
theorem op_jar (H : InvD 0 M nj nh nt A B) (v1 v2 : Int32) : (∃ r B', f_X11_jar v1 v2 A = some (r, A) ∧ f_X12_jar v1 v2 B = some (r, B') ∧ B'.1 41 0 = 0 ∧ InvD 0 M nj nh nt A B') ∨
    ((v1 < 0 ∨ A.1 12 0 ≤ v1 ∨ v2 < 0 ∨ ¬ v2 ≤ 10) ∧ ∃ r B', f_X12_jar v1 v2 B = some (r, B') ∧ B'.1 41 0 = 1 ∧ InvD 0 M nj nh nt A B') := by
  obtain ⟨t1, t2, t3, t4, t5, t6, t7, t8, t9, t10, t11⟩ := H.told
  have n4 := t11.1
  have e0 : (0 : Int64).toInt = 0 := by decide
  have e10 : (10 : Int64).toInt = 10 := by decide
  have f10 : (10 : Int32).toInt = 10 := by decide
  have th : ∀ x, (sV B 41 0 x).1 41 0 = x := fun x => by rw [sV_eq, sR_at, ru_at]
  have bad : ∀ X : Option (Int32 × zS), (if (1 : Int32) ≤ 0 then X else some ((0 : Int32), sV B 41 0 1)) = some (0, sV B 41 0 1) := fun X => if_neg (by decide)
  unfold f_X11_jar f_X12_jar
  rcases isJar2 t1 t4 (by omega) v1 with ⟨j, hj, rfl, e2, e3⟩ | ⟨e2, e3⟩
  · rw [e2, e3, zbE, zbE, zlE, zlE, if_neg n10, if_neg n10, r_isIn, e0, e10, zbE]
    by_cases hv : 0 ≤ v2.toInt ∧ v2.toInt ≤ 10
    · left
      have q0 : ¬ v2 < 0 := fun q => by rw [i_lt0] at q; omega
      have q1 : v2 ≤ 10 := by rw [Int32.le_iff_toInt_le, f10]; omega
      rw [if_pos hv, if_neg n10, if_neg q0, if_pos q1]
      simp only [zlE]
      rw [th, if_pos (show (0 : Int32) ≤ 0 by decide)]
      have ev : v2 = Int32.ofNat v2.toInt.toNat := ti_ofn (by omega)
      have hw : v2.toInt.toNat ≤ 10 := by omega
      generalize v2.toInt.toNat = w at ev hw
      subst ev
      have r54 : (sV B 41 0 0).1 54 = B.1 54 := by rw [sV_eq, sR_ne _ _ (by decide)]
      have r46 : (sV B 41 0 0).1 46 = B.1 46 := by rw [sV_eq, sR_ne _ _ (by decide)]
      have H0 := H.thr 0
      by_cases h10 : w = 10
      · subst h10
        have p3 : (3 : Int32) ≤ Int32.ofNat 10 := by decide
        have p6 : (6 : Int32) ≤ Int32.ofNat 10 := by decide
        rw [if_neg (fun q => q rfl), if_pos p3, if_pos p6, if_neg (fun q => q rfl), c_hold (by omega), zbE, r_holdOf (by omega), zbE, r54]
        exact ⟨_, _, rfl, by rw [H.row.1.hold (by omega)], th 0, H0⟩
      · have q10 : ¬ Int32.ofNat w = 10 := fun q => h10 ((io_eq (b := 10) (by omega) (by omega)).mp q)
        rw [if_pos q10]
        by_cases h3 : w < 3
        · have p2 : ¬ (2 : Int32) < Int32.ofNat w := fun q => by have := (io_lt (a := 2) (by omega) (by omega)).mp q; omega
          have p3 : ¬ (3 : Int32) ≤ Int32.ofNat w := fun q => by have := (io_le (a := 3) (by omega) (by omega)).mp q; omega
          rw [if_neg p2, if_neg p3, c_jarCell (c := w) (by omega) (by omega) rfl, zbE]
          simp (disch := omega) only [ix_m7, ix_aa, io_in, io_cl, if_true]
          rw [r54]
          exact ⟨_, _, rfl, by rw [H.row.1.pl (by omega)], th 0, H0⟩
        · have p2 : (2 : Int32) < Int32.ofNat w := (io_lt (a := 2) (by omega) (by omega)).mpr (by omega)
          have p3 : (3 : Int32) ≤ Int32.ofNat w := (io_le (a := 3) (by omega) (by omega)).mpr (by omega)
          rw [if_pos p2, if_pos p3]
          by_cases h6 : w < 6
          · have p5 : ¬ (5 : Int32) < Int32.ofNat w := fun q => by have := (io_lt (a := 5) (by omega) (by omega)).mp q; omega
            have p6 : ¬ (6 : Int32) ≤ Int32.ofNat w := fun q => by have := (io_le (a := 6) (by omega) (by omega)).mp q; omega
            have ei : f_X10_item 0 (Int32.ofNat j) (Int32.ofNat w) A = some (A.1 13 (6 * j + w), A) := by
              rcases (show w = 3 ∨ w = 4 ∨ w = 5 by omega) with rfl | rfl | rfl
              · exact c_item0_3 (by omega) A
              · exact c_item0_4 (by omega) A
              · exact c_item0_5 (by omega) A
            rw [if_neg p5, if_neg p6, ei, zbE]
            simp (disch := omega) only [ix_m6, ix_aa, io_in, io_cl, if_true]
            rw [r46]
            exact ⟨_, _, rfl, by rw [t8 _ (by omega)], th 0, H0⟩
          · have p5 : (5 : Int32) < Int32.ofNat w := (io_lt (a := 5) (by omega) (by omega)).mpr (by omega)
            have p6 : (6 : Int32) ≤ Int32.ofNat w := (io_le (a := 6) (by omega) (by omega)).mpr (by omega)
            have s3 : Int32.ofNat w - 3 = Int32.ofNat (w - 3) := (Int32.ofNat_sub w 3 (by omega)).symm
            have s3' : Int32.ofNat (7 * j + w) - 3 = Int32.ofNat (7 * j + w - 3) := (Int32.ofNat_sub (7 * j + w) 3 (by omega)).symm
            rw [if_pos p5, if_pos p6, if_pos q10, s3, c_jarCell (c := w - 3) (by omega) (by omega) rfl, zbE]
            simp (disch := omega) only [ix_m7, ix_aa, s3', io_in, io_cl, if_true]
            rw [r54, show 7 * j + w - 3 = 7 * j + (w - 3) by omega]
            exact ⟨_, _, rfl, by rw [H.row.1.pl (by omega)], th 0, H0⟩
    · right
      rw [if_neg hv, if_pos rfl]
      simp only [zlE]
      rw [th, bad]
      refine ⟨?_, _, _, rfl, th 1, H.thr 1⟩
      rw [show v2 < 0 ↔ v2.toInt < 0 from i_lt0, show v2 ≤ 10 ↔ v2.toInt ≤ 10 by rw [Int32.le_iff_toInt_le, f10]]
      omega
  · right
    rw [e3, zbE]
    simp only [zlE, if_true]
    rw [th, bad]
    refine ⟨?_, _, _, rfl, th 1, H.thr 1⟩
    unfold f_X11_isJar at e2
    by_cases h0 : v1 < 0
    · exact Or.inl h0
    · rw [if_neg h0] at e2
      by_cases h1 : A.1 12 0 ≤ v1
      · exact Or.inr (Or.inl h1)
      · rw [if_neg h1] at e2
        exact absurd (congrArg Prod.fst (Option.some.inj e2)) n10
def S2 (f : Nat → Nat) : Nat → Nat → Nat
  | 0, _ => 0
  | k + 1, i => f i + S2 f k (i + 1)
theorem S2_add (f g : Nat → Nat) : ∀ k i, S2 (fun x => f x + g x) k i = S2 f k i + S2 g k i
  | 0, _ => rfl
  | k + 1, i => by
    unfold S2
    rw [S2_add f g k (i + 1)]
    omega
theorem S2_zero : ∀ k i, S2 (fun _ => 0) k i = 0
  | 0, _ => rfl
  | k + 1, i => by
    unfold S2
    rw [S2_zero k (i + 1)]
theorem S2_swap (a : Nat → Nat → Nat) (k h0 : Nat) : ∀ m j0, S2 (fun j => S2 (fun h => a h j) k h0) m j0 = S2 (fun h => S2 (fun j => a h j) m j0) k h0
  | 0, j0 => by
    show 0 = S2 (fun h => 0) k h0
    rw [S2_zero]
  | m + 1, j0 => by
    show S2 (fun h => a h j0) k h0 + S2 (fun j => S2 (fun h => a h j) k h0) m (j0 + 1) = S2 (fun h => a h j0 + S2 (fun j => a h j) m (j0 + 1)) k h0
    rw [S2_add, S2_swap a k h0 m (j0 + 1)]
theorem S2_le {f : Nat → Nat} {c : Nat} (hf : ∀ i, f i ≤ c) : ∀ k i, S2 f k i ≤ k * c
  | 0, _ => by unfold S2; omega
  | k + 1, i => by
    unfold S2
    have := S2_le hf k (i + 1)
    have := hf i
    rw [Nat.add_mul]
    omega
theorem io_add0 (c : Int32) (n : Nat) : c + 1 + Int32.ofNat n = c + Int32.ofNat (1 + n) := by
  rw [Int32.ofNat_add, Int32.add_assoc]
  rfl
def svN (W : zLw) (jT hT tT : Nat → Int32) (t h j : Nat) : Nat := if gripT W jT hT tT h (some t) j < jT (6 * j) + jT (6 * j + 1) + 2 * jT (6 * j + 2) then 0 else if jT (6 * j) + jT (6 * j + 1) + 2 * jT (6 * j + 2) ≤ gripT W jT hT tT h none j then 0 else 1
theorem svN_le (W : zLw) (jT hT tT : Nat → Int32) (t h j : Nat) : svN W jT hT tT t h j ≤ 1 := by
  unfold svN
  split
  · omega
  · split <;> omega
/-- the spare scene is as told -/
def SpV (nj nh : Nat) (A : zS) : Prop := SpT nj nh A ∧ ∀ j, j < nj → A.1 20 (7 * j) = A.1 13 (6 * j)
theorem SpV.same {A A' : zS} (H : SpV nj nh A) (h : sameC A A') : SpV nj nh A' := by
  unfold SpV SpT
  rw [h.2 20 (by decide) (by decide), h.2 13 (by decide) (by decide)]
  exact H
theorem c_savedL {W : zLw} {t : Nat} (ht : t < nt) : ∀ (m j h f : Nat) (c : Int32) (A : zS) (ex : Int32 → Int32 → Int32 → Int32 → zS → Option (Int32 × zS)), j < nj → h ≤ nh → (nj - 1 - j) * (nh + 1) + (nh - h) = m → m < f → ITold nj nh nt A B → LawC A W → SpV nj nh A →
    ∃ A' x y, f_X11_pairsSaved_L37 ex (Int32.ofNat t) f c (Int32.ofNat j) (B.1 46 (6 * j) + B.1 46 (6 * j + 1) + 2 * B.1 46 (6 * j + 2)) (Int32.ofNat h) A = ex (c + Int32.ofNat (S2 (fun i => svN W (B.1 46) (B.1 48) (B.1 50) t i j) (nh - h) h + S2 (fun j => S2 (fun i => svN W (B.1 46) (B.1 48) (B.1 50) t i j) nh 0) (nj - 1 - j) (j + 1))) (Int32.ofNat nj) x y A' ∧ sameC A A' := by
  intro m
  induction m using Nat.strongRecOn with
  | _ m ih =>
    intro j h f c A ex hj hh hm hf T w1 hS
    obtain ⟨f, rfl⟩ : ∃ g, f = g + 1 := ⟨f - 1, by omega⟩
    have T' := T
    obtain ⟨t1, t2, t3, t4, t5, t6, t7, t8, t9, t10, t11⟩ := T
    have n4 := t11.1
    have n6 := t11.2.1
    have n44 := t11.2.2.1
    have hold : ∀ (U : zS) (i : Nat), sameC A U → i < nj → holdM (U.1 (19 + 1)) i = B.1 46 (6 * i) + B.1 46 (6 * i + 1) + 2 * B.1 46 (6 * i + 2) := by
      intro U i sU hi
      unfold holdM
      rw [show 19 + 1 = 20 from rfl, sU.2 20 (by decide) (by decide), hS.2 i hi, (hS.1.1 i hi).1, (hS.1.1 i hi).2, t8 (6 * i) (by omega), t8 (6 * i + 1) (by omega), t8 (6 * i + 2) (by omega)]
    unfold f_X11_pairsSaved_L37
    by_cases he : h = nh
    · subst he
      rw [t2, if_pos (Int32.le_refl _), zlE, io_sc, t1]
      by_cases hl : j + 1 = nj
      · rw [hl, if_pos (Int32.le_refl _), show h - h = 0 by omega, show nj - 1 - j = 0 by omega]
        refine ⟨A, B.1 46 (6 * j) + B.1 46 (6 * j + 1) + 2 * B.1 46 (6 * j + 2), Int32.ofNat h, ?_, sameC.rfl' A⟩
        show ex c _ _ _ A = ex (c + Int32.ofNat (0 + 0)) _ _ _ A
        rw [show c + Int32.ofNat (0 + 0) = c from Int32.add_zero c]
      · have q2 : ¬ Int32.ofNat nj ≤ Int32.ofNat (j + 1) := fun q => by have := (io_le (by omega) (by omega)).mp q; omega
        rw [if_neg q2, c_hold (by omega), zbE, hold A (j + 1) (sameC.rfl' A) (by omega)]
        have em : (nj - 1 - j) * (h + 1) = (nj - 1 - (j + 1)) * (h + 1) + (h + 1) := by
          rw [show nj - 1 - j = (nj - 1 - (j + 1)) + 1 by omega, Nat.add_mul, Nat.one_mul]
        obtain ⟨A', x, y, z1, z2⟩ := ih ((nj - 1 - (j + 1)) * (h + 1) + (h - 0)) (by omega) (j + 1) 0 f c A ex (by omega) (by omega) rfl (by omega) T' w1 hS
        refine ⟨A', x, y, ?_, z2⟩
        rw [show h - h = 0 by omega, show nj - 1 - j = (nj - 1 - (j + 1)) + 1 by omega]
        show _ = ex (c + Int32.ofNat (0 + (S2 (fun i => svN W (B.1 46) (B.1 48) (B.1 50) t i (j + 1)) h 0 + S2 (fun j => S2 (fun i => svN W (B.1 46) (B.1 48) (B.1 50) t i j) h 0) (nj - 1 - (j + 1)) (j + 1 + 1)))) _ x y A'
        rw [Nat.zero_add]
        exact z1
    · have q1 : ¬ Int32.ofNat nh ≤ Int32.ofNat h := fun q => by have := (io_le (by omega) (by omega)).mp q; omega
      obtain ⟨A1, g1, s1⟩ := c_gripOn w1 (o := 19) (h := h) (j := j) (t := some t) (by decide) (by decide) (by omega) (by omega) (fun k hk => by cases hk; omega)
      have g1' : f_X7_gripOn 19 (Int32.ofNat h) (Int32.ofNat t) (Int32.ofNat j) A = _ := g1
      have ge1 := gripT_c (W := W) T' hS.1 (h := h) (j := j) (t := some t) (by omega) hj (fun k hk => by cases hk; omega)
      have hS1 := hS.same s1
      have T1 : ITold nj nh nt A1 B := T'.of (s1.2 12 (by decide) (by decide)) (s1.2 13 (by decide) (by decide)) (by rw [s1.2 0 (by decide) (by decide)]) rfl rfl rfl rfl rfl rfl
      have w11 : LawC A1 W := w1.co (sameCo.of (o := 19) s1) (by decide)
      obtain ⟨A2, g2, s2⟩ := c_gripOn w11 (o := 19) (h := h) (j := j) (t := none) (by decide) (by decide) (by omega) (by omega) (fun k hk => by cases hk)
      have g2' : f_X7_gripOn 19 (Int32.ofNat h) (-1) (Int32.ofNat j) A1 = _ := g2
      have ge2 := gripT_c (W := W) T1 hS1.1 (h := h) (j := j) (t := none) (by omega) hj (fun k hk => by cases hk)
      have s12 := s1.tr s2
      have T2 : ITold nj nh nt A2 B := T'.of (s12.2 12 (by decide) (by decide)) (s12.2 13 (by decide) (by decide)) (by rw [s12.2 0 (by decide) (by decide)]) rfl rfl rfl rfl rfl rfl
      have w12 : LawC A2 W := w1.co (sameCo.of (o := 19) s12) (by decide)
      rw [t2, if_neg q1, g1', zbE, ge1]
      simp only [zlE, io_sc]
      have enh : nh - h = (nh - (h + 1)) + 1 := by omega
      rw [enh]
      show ∃ A' x y, _ = ex (c + Int32.ofNat (svN W (B.1 46) (B.1 48) (B.1 50) t h j + S2 (fun i => svN W (B.1 46) (B.1 48) (B.1 50) t i j) (nh - (h + 1)) (h + 1) + _)) _ x y A' ∧ _
      by_cases c1 : gripT W (B.1 46) (B.1 48) (B.1 50) h (some t) j < B.1 46 (6 * j) + B.1 46 (6 * j + 1) + 2 * B.1 46 (6 * j + 2)
      · have e0 : svN W (B.1 46) (B.1 48) (B.1 50) t h j = 0 := if_pos c1
        rw [if_pos c1, e0, Nat.zero_add]
        obtain ⟨A', x, y, z1, z2⟩ := ih ((nj - 1 - j) * (nh + 1) + (nh - (h + 1))) (by omega) j (h + 1) f c A1 ex hj (by omega) rfl (by omega) T1 w11 hS1
        exact ⟨A', x, y, z1, s1.tr z2⟩
      · rw [if_neg c1, g2', zbE, ge2]
        by_cases c2 : B.1 46 (6 * j) + B.1 46 (6 * j + 1) + 2 * B.1 46 (6 * j + 2) ≤ gripT W (B.1 46) (B.1 48) (B.1 50) h none j
        · have e0 : svN W (B.1 46) (B.1 48) (B.1 50) t h j = 0 := by unfold svN; rw [if_neg c1, if_pos c2]
          rw [if_pos c2, e0, Nat.zero_add]
          obtain ⟨A', x, y, z1, z2⟩ := ih ((nj - 1 - j) * (nh + 1) + (nh - (h + 1))) (by omega) j (h + 1) f c A2 ex hj (by omega) rfl (by omega) T2 w12 (hS.same s12)
          exact ⟨A', x, y, z1, s12.tr z2⟩
        · have e0 : svN W (B.1 46) (B.1 48) (B.1 50) t h j = 1 := by unfold svN; rw [if_neg c1, if_neg c2]
          rw [if_neg c2, e0, Nat.add_assoc, ← io_add0]
          obtain ⟨A', x, y, z1, z2⟩ := ih ((nj - 1 - j) * (nh + 1) + (nh - (h + 1))) (by omega) j (h + 1) f (c + 1) A2 ex hj (by omega) rfl (by omega) T2 w12 (hS.same s12)
          exact ⟨A', x, y, z1, s12.tr z2⟩
end NC
