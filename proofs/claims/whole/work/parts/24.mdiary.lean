/-! What was, to be undone, and the log: rings of the class against rows of the reference that move up. -/
section ME
theorem io_rem {x n : Nat} (hx : x < 1000000) {m : Int32} (hm : m = Int32.ofNat n) (hn : n < 1000000) : Int32.ofNat x - Int32.ofNat x / m * m = Int32.ofNat (x % n) := by
  have e : x % n = x - x / n * n := by
    have := Nat.div_add_mod x n
    rw [Nat.mul_comm] at this
    omega
  have h2 : x / n * n ≤ x := Nat.div_mul_le_self x n
  rw [hm, ← Int32.ofNat_div (by omega) (by omega), ← Int32.ofNat_mul, ← Int32.ofNat_sub _ _ h2, e]
/-- n numbers of a row into another one -/
def cpy (f g : Nat → Int32) (sp dp n : Nat) : Nat → Int32 := fun k => if dp ≤ k ∧ k < dp + n then f (sp + (k - dp)) else g k
theorem sC_eq (S : zS) (a sp b dp n : Nat) : sC S a sp b dp n = sR S b (cpy (S.1 a) (S.1 b) sp dp n) := by
  unfold sC sR cpy
  refine Prod.ext ?_ rfl
  funext c k
  show (if c = b ∧ dp ≤ k ∧ k < dp + n then S.1 a (sp + (k - dp)) else S.1 c k) = (if c = b then (fun k => if dp ≤ k ∧ k < dp + n then S.1 a (sp + (k - dp)) else S.1 b k) else S.1 c) k
  by_cases h : c = b
  · subst h
    rw [if_pos rfl]
    by_cases h2 : dp ≤ k ∧ k < dp + n
    · rw [if_pos ⟨rfl, h2⟩]; exact (if_pos h2).symm
    · rw [if_neg (fun q => h2 q.2)]; exact (if_neg h2).symm
  · rw [if_neg (fun q => h q.1), if_neg h]
theorem cpy_in {f g : Nat → Int32} {sp dp n k : Nat} (h : k < n) : cpy f g sp dp n (dp + k) = f (sp + k) := by
  unfold cpy
  rw [if_pos (by omega), show dp + k - dp = k by omega]
theorem cpy_out {f g : Nat → Int32} {sp dp n k : Nat} (h : k < dp ∨ dp + n ≤ k) : cpy f g sp dp n k = g k := by
  unfold cpy
  rw [if_neg (by omega)]
theorem cpy_0 {f g : Nat → Int32} {n k : Nat} (h : k < n) : cpy f g 0 0 n k = f k := by
  have := cpy_in (f := f) (g := g) (sp := 0) (dp := 0) h
  rwa [Nat.zero_add] at this
/-- the class puts the scene by -/
theorem c_keep {A : zS} {nr u : Nat} (h1 : A.1 21 5 = Int32.ofNat nr) (h2 : nr < 40) (h3 : A.1 21 6 = Int32.ofNat u) (h4 : u ≤ 40) :
    f_X1_keep_17 A = some ((), sR (sR A 22 (cpy (A.1 18) (A.1 22) 0 (66 * nr) 66)) 21 (ru (ru (A.1 21) 5 (Int32.ofNat ((nr + 1) % 40))) 6 (Int32.ofNat (if u + 1 < 40 then u + 1 else 40)))) := by
  have e1 : Int32.ofNat nr * 66 = Int32.ofNat (66 * nr) := by rw [Int32.ofNat_mul, Int32.mul_comm]; rfl
  have e2 : ((66 : Int32).toNatClampNeg) = 66 := by decide
  have e3 : ((0 : Int32).toNatClampNeg) = 0 := by decide
  have e4 : (66 : Int32).toInt = 66 := by decide
  unfold f_X1_keep_17
  rw [h1, e1, io_cl (by omega), e2, e3, if_pos ⟨by decide, by rw [ti_nat (by omega)]; omega, by decide, by decide, by rw [ti_nat (by omega), e4]; omega⟩]
  simp only [zlE, sC_eq, sV_eq]
  rw [sR_ne _ _ (by decide), h1, sR_at, sR_sR]
  rw [io_sc, io_rem (m := 40) (n := 40) (by omega) rfl (by omega), ru_ne (by decide), h3, io_sc]
  by_cases hu : u + 1 < 40
  · have hq : Int32.ofNat (u + 1) < 40 := (io_lt (b := 40) (by omega) (by omega)).mpr hu
    rw [if_pos hu, if_pos hq]
  · have hq : ¬ Int32.ofNat (u + 1) < 40 := fun q => hu ((io_lt (b := 40) (by omega) (by omega)).mp q)
    rw [if_neg hu, if_neg hq]
    rfl
theorem c_note {A : zS} {nn l : Nat} (h1 : A.1 21 7 = Int32.ofNat nn) (h2 : nn < 60) (h3 : A.1 21 8 = Int32.ofNat l) (h4 : l ≤ 60) (c mn : Int32) :
    f_X1_note c mn A = some ((), sR (sR (sR A 23 (ru (A.1 23) nn c)) 24 (ru (A.1 24) nn mn)) 21 (ru (ru (A.1 21) 7 (Int32.ofNat ((nn + 1) % 60))) 8 (Int32.ofNat (if l + 1 < 60 then l + 1 else 60)))) := by
  unfold f_X1_note
  rw [h1, if_pos (io_in (by omega) (by omega)), io_cl (by omega)]
  simp only [zlE, sV_eq]
  rw [sR_ne _ _ (by decide), h1, if_pos (io_in (by omega) (by omega)), io_cl (by omega)]
  rw [sR_ne _ (b := 21) _ (by decide), sR_ne _ (b := 21) _ (by decide), sR_ne _ (b := 24) _ (by decide), h1, sR_at, sR_sR]
  rw [io_sc, io_rem (m := 60) (n := 60) (by omega) rfl (by omega), ru_ne (by decide), h3, io_sc]
  by_cases hu : l + 1 < 60
  · have hq : Int32.ofNat (l + 1) < 60 := (io_lt (b := 60) (by omega) (by omega)).mpr hu
    rw [if_pos hu, if_pos hq]
  · have hq : ¬ Int32.ofNat (l + 1) < 60 := fun q => hu ((io_lt (b := 60) (by omega) (by omega)).mp q)
    rw [if_neg hu, if_neg hq]
    rfl
theorem r_rem51 {B : zS} {u : Nat} {ex : Int32 → zS → Option (Unit × zS)} (h1 : B.1 41 39 = Int32.ofNat u) (h2 : u < 40) : ∀ (m i f : Nat), i + m = 66 → m < f → f_X12_remember_L51 ex f (Int32.ofNat i) (sR B 56 (cpy (B.1 54) (B.1 56) 0 (66 * u) i)) = ex 66 (sR B 56 (cpy (B.1 54) (B.1 56) 0 (66 * u) 66)) := by
  intro m
  induction m with
  | zero =>
    intro i f hi hf
    obtain ⟨f, rfl⟩ : ∃ g, f = g + 1 := ⟨f - 1, by omega⟩
    have hi : i = 66 := by omega
    subst hi
    unfold f_X12_remember_L51
    exact if_pos (Int32.le_refl _)
  | succ m ih =>
    intro i f hi hf
    obtain ⟨f, rfl⟩ : ∃ g, f = g + 1 := ⟨f - 1, by omega⟩
    have e1 : 66 * Int32.ofNat u + Int32.ofNat i = Int32.ofNat (66 * u + i) := by rw [Int32.ofNat_add, Int32.ofNat_mul]; rfl
    have e2 : ru (cpy (B.1 54) (B.1 56) 0 (66 * u) i) (66 * u + i) (B.1 54 i) = cpy (B.1 54) (B.1 56) 0 (66 * u) (i + 1) := by
      funext k
      unfold ru cpy
      by_cases c : k = 66 * u + i
      · subst c
        rw [if_pos rfl, if_pos (by omega), show 0 + (66 * u + i - 66 * u) = i by omega]
      · rw [if_neg c]
        by_cases c2 : 66 * u ≤ k ∧ k < 66 * u + i
        · rw [if_pos c2, if_pos (by omega)]
        · rw [if_neg c2, if_neg (by omega)]
    unfold f_X12_remember_L51
    rw [if_neg (fun q => by have := (io_le (a := 66) (b := i) (by omega) (by omega)).mp q; omega)]
    rw [if_pos (io_in (by omega) (by omega)), sR_ne _ (b := 41) _ (by decide), h1, e1, if_pos (io_in (by omega) (by omega)), io_cl (by omega), io_cl (by omega)]
    simp only [zlE, sV_eq]
    rw [sR_ne _ (b := 54) _ (by decide), sR_at, sR_sR, e2, io_sc]
    exact ih (i + 1) f (by omega) (by omega)
/-- the rows one up -/
def shf (f : Nat → Int32) (d i : Nat) : Nat → Int32 := fun k => if k < i then f (k + d) else f k
theorem r_rem11 {B : zS} {ex : Int32 → zS → Option (Unit × zS)} : ∀ (m i f : Nat), i + m = 2574 → m < f → f_X12_remember_L11 ex f (Int32.ofNat i) (sR B 56 (shf (B.1 56) 66 i)) = ex 2574 (sR B 56 (shf (B.1 56) 66 2574)) := by
  intro m
  induction m with
  | zero =>
    intro i f hi hf
    obtain ⟨f, rfl⟩ : ∃ g, f = g + 1 := ⟨f - 1, by omega⟩
    have hi : i = 2574 := by omega
    subst hi
    unfold f_X12_remember_L11
    exact if_pos (Int32.le_refl _)
  | succ m ih =>
    intro i f hi hf
    obtain ⟨f, rfl⟩ : ∃ g, f = g + 1 := ⟨f - 1, by omega⟩
    have e1 : Int32.ofNat i + 66 = Int32.ofNat (i + 66) := by rw [Int32.ofNat_add]; rfl
    have e2 : ru (shf (B.1 56) 66 i) i (shf (B.1 56) 66 i (i + 66)) = shf (B.1 56) 66 (i + 1) := by
      funext k
      unfold ru shf
      by_cases c : k = i
      · subst c
        rw [if_pos rfl, if_neg (by omega), if_pos (by omega)]
      · rw [if_neg c]
        by_cases c2 : k < i
        · rw [if_pos c2, if_pos (by omega)]
        · rw [if_neg c2, if_neg (by omega)]
    unfold f_X12_remember_L11
    rw [if_neg (fun q => by have := (io_le (a := 2574) (b := i) (by omega) (by omega)).mp q; omega)]
    rw [e1, if_pos (io_in (by omega) (by omega)), if_pos (io_in (by omega) (by omega)), io_cl (by omega), io_cl (by omega)]
    simp only [zlE, sV_eq]
    rw [sR_at, sR_sR, e2, io_sc]
    exact ih (i + 1) f (by omega) (by omega)
theorem r_rem51z {B : zS} {u : Nat} {ex : Int32 → zS → Option (Unit × zS)} (h1 : B.1 41 39 = Int32.ofNat u) (h2 : u < 40) {x : Int32} (hx : x = Int32.ofNat 0) : f_X12_remember_L51 ex zN x B = ex 66 (sR B 56 (cpy (B.1 54) (B.1 56) 0 (66 * u) 66)) := by
  subst hx
  have e := r_rem51 (B := B) (u := u) (ex := ex) h1 h2 66 0 zN (by omega) (by unfold zN; omega)
  have e0 : cpy (B.1 54) (B.1 56) 0 (66 * u) 0 = B.1 56 := by funext k; exact cpy_out (by omega)
  rw [e0, sR_self] at e
  exact e
theorem r_rem11z {B : zS} {ex : Int32 → zS → Option (Unit × zS)} {x : Int32} (hx : x = Int32.ofNat 0) : f_X12_remember_L11 ex zN x B = ex 2574 (sR B 56 (shf (B.1 56) 66 2574)) := by
  subst hx
  have e := r_rem11 (B := B) (ex := ex) 2574 0 zN (by omega) (by unfold zN; omega)
  have e0 : shf (B.1 56) 66 0 = B.1 56 := by funext k; unfold shf; rw [if_neg (by omega)]
  rw [e0, sR_self] at e
  exact e
theorem r_rem_lo {B : zS} {u : Nat} (h1 : B.1 41 39 = Int32.ofNat u) (h2 : u < 40) : f_X12_remember B = some ((), sR (sR B 56 (cpy (B.1 54) (B.1 56) 0 (66 * u) 66)) 41 (ru (B.1 41) 39 (Int32.ofNat (u + 1)))) := by
  have hq : ¬ Int32.ofNat u = 40 := fun q => by have := (io_eq (a := u) (b := 40) (by omega) (by omega)).mp q; omega
  unfold f_X12_remember
  simp only [zlE]
  rw [h1, if_pos hq, r_rem51z (x := 0) h1 h2 rfl, sV_eq, sR_ne _ (b := 41) _ (by decide), h1, io_sc]
theorem r_rem_hi {B : zS} (h1 : B.1 41 39 = Int32.ofNat 40) : f_X12_remember B = some ((), sR (sR B 56 (cpy (B.1 54) (shf (B.1 56) 66 2574) 0 2574 66)) 41 (ru (B.1 41) 39 (Int32.ofNat 40))) := by
  have hq : ¬ ¬ Int32.ofNat 40 = 40 := by decide
  have q1 : Int32.ofNat 40 - 1 = Int32.ofNat 39 := by decide
  have q2 : Int32.ofNat 39 + 1 = Int32.ofNat 40 := by decide
  unfold f_X12_remember
  simp only [zlE]
  rw [h1, if_neg hq, r_rem11z (x := 0) rfl, sR_ne _ (b := 41) _ (by decide), h1, q1, r_rem51z (x := 0) (u := 39) (by rw [sV_eq, sR_at, ru_at]) (by omega) rfl]
  simp only [sV_eq]
  simp (disch := decide) only [sR_at, sR_ne, ru_at, ru_ru, h1]
  rw [sR_cm _ _ _ (show (41 : Nat) ≠ 56 by decide), sR_sR, sR_sR, q2]
/-- the reference puts the scene by -/
theorem r_remember {B : zS} {u : Nat} (h1 : B.1 41 39 = Int32.ofNat u) (h2 : u ≤ 40) : ∃ q, f_X12_remember B = some ((), sR (sR B 56 q) 41 (ru (B.1 41) 39 (Int32.ofNat (if u + 1 < 40 then u + 1 else 40)))) ∧
    (∀ k, k < 66 → q (66 * (if u < 40 then u else 39) + k) = B.1 54 k) ∧ (∀ i k, k < 66 → i < (if u < 40 then u else 39) → q (66 * i + k) = B.1 56 (66 * (i + (if u < 40 then 0 else 1)) + k)) := by
  by_cases hu : u < 40
  · refine ⟨cpy (B.1 54) (B.1 56) 0 (66 * u) 66, ?_, fun k hk => ?_, fun i k hk hi => ?_⟩
    · rw [r_rem_lo h1 hu]
      by_cases h9 : u + 1 < 40
      · rw [if_pos h9]
      · rw [if_neg h9, show u + 1 = 40 by omega]
    · rw [if_pos hu, cpy_in hk, Nat.zero_add]
    · rw [if_pos hu] at hi ⊢
      rw [Nat.add_zero, cpy_out (by omega)]
  · have hu : u = 40 := by omega
    subst hu
    refine ⟨cpy (B.1 54) (shf (B.1 56) 66 2574) 0 2574 66, ?_, fun k hk => ?_, fun i k hk hi => ?_⟩
    · rw [r_rem_hi h1, if_neg (by omega)]
    · rw [if_neg (by omega), show 66 * 39 + k = 2574 + k by omega, cpy_in hk, Nat.zero_add]
    · rw [if_neg (by omega)] at hi ⊢
      rw [cpy_out (by omega)]
      unfold shf
      rw [if_pos (by omega), show 66 * i + k + 66 = 66 * (i + 1) + k by omega]
theorem r_wr11 {B : zS} {ex : Int32 → zS → Option (Unit × zS)} {c : Int32} : ∀ (m i f : Nat), i + m = 59 → m < f → f_X12_writes_L11 ex c f (Int32.ofNat (i + 1)) (sR (sR B 57 (shf (B.1 57) 1 i)) 58 (shf (B.1 58) 1 i)) = ex 60 (sR (sR B 57 (shf (B.1 57) 1 59)) 58 (shf (B.1 58) 1 59)) := by
  intro m
  induction m with
  | zero =>
    intro i f hi hf
    obtain ⟨f, rfl⟩ : ∃ g, f = g + 1 := ⟨f - 1, by omega⟩
    have hi : i = 59 := by omega
    subst hi
    unfold f_X12_writes_L11
    exact if_pos (Int32.le_refl _)
  | succ m ih =>
    intro i f hi hf
    obtain ⟨f, rfl⟩ : ∃ g, f = g + 1 := ⟨f - 1, by omega⟩
    have e1 : Int32.ofNat (i + 1) - 1 = Int32.ofNat i := by
      have := Int32.ofNat_sub (i + 1) 1 (by omega)
      rw [show i + 1 - 1 = i by omega] at this
      rw [this]
      rfl
    have e2 : ∀ f : Nat → Int32, ru (shf f 1 i) i (shf f 1 i (i + 1)) = shf f 1 (i + 1) := by
      intro f
      funext k
      unfold ru shf
      by_cases c : k = i
      · subst c
        rw [if_pos rfl, if_neg (by omega), if_pos (by omega)]
      · rw [if_neg c]
        by_cases c2 : k < i
        · rw [if_pos c2, if_pos (by omega)]
        · rw [if_neg c2, if_neg (by omega)]
    unfold f_X12_writes_L11
    rw [if_neg (fun q => by have := (io_le (a := 60) (b := i + 1) (by omega) (by omega)).mp q; omega)]
    rw [e1, if_pos (io_in (by omega) (by omega)), if_pos (io_in (by omega) (by omega)), io_cl (by omega), io_cl (by omega)]
    simp only [zlE, sV_eq]
    rw [if_pos (io_in (by omega) (by omega)), if_pos (io_in (by omega) (by omega))]
    rw [sR_ne _ (b := 57) (a := 58) _ (by decide), sR_at, sR_ne _ (b := 58) (a := 57) _ (by decide), sR_at]
    rw [sR_cm _ _ _ (show (58 : Nat) ≠ 57 by decide), sR_sR, sR_sR, e2, e2, io_sc]
    exact ih (i + 1) f (by omega) (by omega)
theorem r_writes {B : zS} {l : Nat} (h1 : B.1 41 40 = Int32.ofNat l) (h2 : l ≤ 60) (c : Int32) : ∃ q1 q2, f_X12_writes c B = some ((), sR (sR (sR B 57 q1) 58 q2) 41 (ru (B.1 41) 40 (Int32.ofNat (if l + 1 < 60 then l + 1 else 60)))) ∧
    q1 (if l < 60 then l else 59) = c ∧ q2 (if l < 60 then l else 59) = B.1 54 65 ∧ (∀ i, i < (if l < 60 then l else 59) → q1 i = B.1 57 (i + (if l < 60 then 0 else 1)) ∧ q2 i = B.1 58 (i + (if l < 60 then 0 else 1))) := by
  by_cases hl : l < 60
  · refine ⟨ru (B.1 57) l c, ru (B.1 58) l (B.1 54 65), ?_, ?_, ?_, fun i hi => ?_⟩
    · unfold f_X12_writes
      simp only [zlE]
      rw [h1, if_pos (fun q => by have := (io_eq (a := l) (b := 60) (by omega) (by omega)).mp q; omega)]
      rw [if_pos (io_in (by omega) (by omega)), io_cl (by omega)]
      simp only [sV_eq]
      rw [sR_ne _ (b := 41) (a := 57) _ (by decide), h1, if_pos (io_in (by omega) (by omega)), io_cl (by omega)]
      rw [sR_ne _ (b := 58) (a := 57) _ (by decide), sR_ne _ (b := 54) (a := 57) _ (by decide), sR_ne _ (b := 41) (a := 58) _ (by decide), sR_ne _ (b := 41) (a := 57) _ (by decide), h1, io_sc]
      by_cases h9 : l + 1 < 60
      · rw [if_pos h9]
      · rw [if_neg h9, show l + 1 = 60 by omega]
    · rw [if_pos hl, ru_at]
    · rw [if_pos hl, ru_at]
    · rw [if_pos hl] at hi ⊢
      rw [Nat.add_zero, ru_ne (by omega), ru_ne (by omega)]
      exact ⟨rfl, rfl⟩
  · have hl : l = 60 := by omega
    subst hl
    refine ⟨ru (shf (B.1 57) 1 59) 59 c, ru (shf (B.1 58) 1 59) 59 (B.1 54 65), ?_, ?_, ?_, fun i hi => ?_⟩
    · have e0 : ∀ f : Nat → Int32, shf f 1 0 = f := fun f => by funext k; unfold shf; rw [if_neg (by omega)]
      have e9 : (60 : Int32) - 1 = Int32.ofNat 59 := by decide
      unfold f_X12_writes
      simp only [zlE]
      rw [h1, if_neg (fun q => q rfl)]
      have e := r_wr11 (B := B) (c := c) (ex := fun (q18 : Int32) (S17 : zS) => if ia_in ((sV S17 41 40 ((S17.1 41 40) - 1)).1 41 40) 60 = true then (if ia_in ((sV (sV S17 41 40 ((S17.1 41 40) - 1)) 57 (((sV S17 41 40 ((S17.1 41 40) - 1)).1 41 40).toNatClampNeg) c).1 41 40) 60 = true then some ((), sV (sV (sV (sV S17 41 40 ((S17.1 41 40) - 1)) 57 (((sV S17 41 40 ((S17.1 41 40) - 1)).1 41 40).toNatClampNeg) c) 58 (((sV (sV S17 41 40 ((S17.1 41 40) - 1)) 57 (((sV S17 41 40 ((S17.1 41 40) - 1)).1 41 40).toNatClampNeg) c).1 41 40).toNatClampNeg) ((sV (sV S17 41 40 ((S17.1 41 40) - 1)) 57 (((sV S17 41 40 ((S17.1 41 40) - 1)).1 41 40).toNatClampNeg) c).1 54 65)) 41 40 ((sV (sV (sV S17 41 40 ((S17.1 41 40) - 1)) 57 (((sV S17 41 40 ((S17.1 41 40) - 1)).1 41 40).toNatClampNeg) c) 58 (((sV (sV S17 41 40 ((S17.1 41 40) - 1)) 57 (((sV S17 41 40 ((S17.1 41 40) - 1)).1 41 40).toNatClampNeg) c).1 41 40).toNatClampNeg) ((sV (sV S17 41 40 ((S17.1 41 40) - 1)) 57 (((sV S17 41 40 ((S17.1 41 40) - 1)).1 41 40).toNatClampNeg) c).1 54 65)).1 41 40 + 1)) else none) else none) 59 0 zN (by omega) (by unfold zN; omega)
      rw [e0, e0, sR_self, show B.1 58 = B.1 58 from rfl, sR_self] at e
      refine e.trans ?_
      simp only [sV_eq]
      simp (disch := decide) only [sR_at, sR_ne, ru_at, h1]
      rw [show (Int32.ofNat 60 - 1 : Int32) = Int32.ofNat 59 from e9, if_pos (io_in (by omega) (by omega)), io_cl (by omega)]
      simp (disch := decide) only [sR_at, sR_ne, ru_at, ru_ru, sR_sR, if_true]
      rw [if_pos (io_in (by omega) (by omega))]
      rw [sR_cm _ _ _ (show (41 : Nat) ≠ 57 by decide), sR_cm _ _ _ (show (41 : Nat) ≠ 58 by decide), sR_sR, sR_cm _ _ _ (show (58 : Nat) ≠ 57 by decide), sR_sR, sR_sR]
      rfl
    · rw [if_neg (by omega), ru_at]
    · rw [if_neg (by omega), ru_at]
    · rw [if_neg (by omega)] at hi ⊢
      rw [ru_ne (by omega), ru_ne (by omega)]
      unfold shf
      rw [if_pos (by omega), if_pos (by omega)]
      exact ⟨rfl, rfl⟩
end ME
