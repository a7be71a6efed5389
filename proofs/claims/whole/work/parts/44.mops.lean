/-! All as told at first: openers, factory, saves. -/
section NA
variable {d M nj nh nt : Nat} {A B : zS}
/-- a scene as told at first -/
def toldV (T : Nat → Int32) (nj nh k : Nat) : Int32 := if k < 28 ∧ k % 7 < 3 ∧ k / 7 < nj then T (6 * (k / 7) + k % 7) else if 28 ≤ k ∧ k < 40 ∧ (k - 28) / 2 < nh then T (24 + (5 * ((k - 28) / 2) + 2 * ((k - 28) % 2))) else 0
def tJ (T : Nat → Int32) (t : Nat) (r : Nat → Int32) : Nat → Int32 := fun k => if k < 28 ∧ k % 7 < 3 ∧ 3 * (k / 7) + k % 7 < t then T (6 * (k / 7) + k % 7) else r k
def tH (T : Nat → Int32) (h : Nat) (r : Nat → Int32) : Nat → Int32 := fun k => if 28 ≤ k ∧ k < 40 ∧ (k - 28) / 2 < h then T (24 + (5 * ((k - 28) / 2) + 2 * ((k - 28) % 2))) else r k
theorem c_fillL {q N : Nat} (hN : N < 5000) {r : Nat → Int32} : ∀ (m i f : Nat), i + m = N → m < f → f_J7_fill_53178_L5 q N (fun _ S6 => some ((), S6)) 0 (Int32.ofNat N) f (Int32.ofNat i) (sR A q (fun k => if k < i then 0 else r k)) = some ((), sR A q (fun k => if k < N then 0 else r k)) := by
  intro m
  induction m with
  | zero =>
    intro i f hi hf
    obtain ⟨f, rfl⟩ : ∃ g, f = g + 1 := ⟨f - 1, by omega⟩
    have hi : i = N := by omega
    subst hi
    unfold f_J7_fill_53178_L5
    exact if_pos (Int32.le_refl _)
  | succ m ih =>
    intro i f hi hf
    obtain ⟨f, rfl⟩ : ∃ g, f = g + 1 := ⟨f - 1, by omega⟩
    have q1 : ¬ Int32.ofNat N ≤ Int32.ofNat i := fun q => by have := (io_le (by omega) (by omega)).mp q; omega
    have e : ru (fun k => if k < i then 0 else r k) i 0 = (fun k => if k < i + 1 then 0 else r k) := by
      funext k
      unfold ru
      by_cases c : k = i
      · subst c
        rw [if_pos rfl, if_pos (by omega)]
      · rw [if_neg c]
        dsimp only
        by_cases c2 : k < i
        · rw [if_pos c2, if_pos (by omega)]
        · rw [if_neg c2, if_neg (by omega)]
    unfold f_J7_fill_53178_L5
    rw [if_neg q1, if_pos (io_in (by omega) (by omega)), io_cl (by omega), zlE, sV_eq, sR_at, sR_sR, e, zlE, io_sc]
    exact ih (i + 1) f (by omega) (by omega)
theorem c_fill {q N : Nat} (hN : N < 5000) : f_J7_fill_53178 q N 0 A = some ((), sR A q (fun k => if k < N then 0 else A.1 q k)) := by
  have e := c_fillL (A := A) (q := q) hN (r := A.1 q) N 0 zN (by omega) (by unfold zN; omega)
  have e0 : (fun k => if k < 0 then (0 : Int32) else A.1 q k) = A.1 q := by funext k; rw [if_neg (by omega)]
  rw [e0, sR_self] at e
  unfold f_J7_fill_53178
  rw [zlE]
  exact e
theorem c_item0 {j c : Nat} (hj : j < 4) (hc : c < 3) (S : zS) : f_X10_item 0 (Int32.ofNat j) (Int32.ofNat c) S = some (S.1 13 (6 * j + c), S) := by
  rcases (show c = 0 ∨ c = 1 ∨ c = 2 by omega) with rfl | rfl | rfl
  · exact c_item0_0 hj S
  · exact c_item0_1 hj S
  · exact c_item0_2 hj S
theorem c_rst25 {o : Nat} (ho : 17 ≤ o) {ex : Int32 → Int32 → zS → Option (Unit × zS)} {r : Nat → Int32} (h1 : A.1 12 0 = Int32.ofNat nj) (h4 : nj ≤ 4) : ∀ (m j c f : Nat), j < nj → c ≤ 3 → 4 * (nj - 1 - j) + (3 - c) = m → m < f → f_X7_restart_L25 o ex f (Int32.ofNat j) (Int32.ofNat c) (sR A (o + 1) (tJ (A.1 13) (3 * j + c) r)) = ex (Int32.ofNat nj) 3 (sR A (o + 1) (tJ (A.1 13) (3 * nj) r)) := by
  intro m
  induction m using Nat.strongRecOn with
  | _ m ih =>
    intro j c f hj hc hm hf
    obtain ⟨f, rfl⟩ : ∃ g, f = g + 1 := ⟨f - 1, by omega⟩
    unfold f_X7_restart_L25
    by_cases c3 : c = 3
    · subst c3
      have q1 : (2 : Int32) < Int32.ofNat 3 := by decide
      rw [if_pos q1, zlE, io_sc, sR_ne _ _ (by omega), h1]
      by_cases hl : j + 1 = nj
      · rw [hl, if_pos (Int32.le_refl _), ← hl]
        rfl
      · have q2 : ¬ Int32.ofNat nj ≤ Int32.ofNat (j + 1) := fun q => by have := (io_le (by omega) (by omega)).mp q; omega
        rw [if_neg q2]
        exact ih (4 * (nj - 1 - (j + 1)) + (3 - 0)) (by omega) (j + 1) 0 f (by omega) (by omega) rfl (by omega)
    · have q1 : ¬ (2 : Int32) < Int32.ofNat c := fun q => by have := (io_lt (a := 2) (by omega) (by omega)).mp q; omega
      have ei : Int32.ofNat j * 7 + Int32.ofNat c = Int32.ofNat (7 * j + c) := by rw [Int32.ofNat_add, Int32.ofNat_mul, Int32.mul_comm]; rfl
      have e : ru (tJ (A.1 13) (3 * j + c) r) (7 * j + c) (A.1 13 (6 * j + c)) = tJ (A.1 13) (3 * j + (c + 1)) r := by
        funext k
        unfold ru tJ
        by_cases hk : k = 7 * j + c
        · subst hk
          rw [if_pos rfl, if_pos (by omega), show 6 * ((7 * j + c) / 7) + (7 * j + c) % 7 = 6 * j + c by omega]
        · rw [if_neg hk]
          by_cases c2 : k < 28 ∧ k % 7 < 3 ∧ 3 * (k / 7) + k % 7 < 3 * j + c
          · rw [if_pos c2, if_pos (by omega)]
          · rw [if_neg c2, if_neg (by omega)]
      rw [if_neg q1, c_item0 (by omega) (by omega), zbE, ei, if_pos (io_in (by omega) (by omega)), io_cl (by omega), sR_ne _ (b := 13) _ (by omega)]
      rw [zlE, sV_eq, sR_at, sR_sR, e, zlE, io_sc]
      exact ih (4 * (nj - 1 - j) + (3 - (c + 1))) (by omega) j (c + 1) f hj (by omega) rfl (by omega)
theorem c_rst65 {o : Nat} (ho : 17 ≤ o) {r : Nat → Int32} (h1 : A.1 12 1 = Int32.ofNat nh) (h6 : nh ≤ 6) : ∀ (m i f : Nat), i + m = nh → m < f → f_X7_restart_L65 o (fun _ S33 => some ((), S33)) f (Int32.ofNat i) (sR A (o + 1) (tH (A.1 13) i r)) = some ((), sR A (o + 1) (tH (A.1 13) nh r)) := by
  intro m
  induction m with
  | zero =>
    intro i f hi hf
    obtain ⟨f, rfl⟩ : ∃ g, f = g + 1 := ⟨f - 1, by omega⟩
    have hi : i = nh := by omega
    subst hi
    unfold f_X7_restart_L65
    rw [sR_ne _ _ (by omega), h1]
    exact if_pos (Int32.le_refl _)
  | succ m ih =>
    intro i f hi hf
    obtain ⟨f, rfl⟩ : ∃ g, f = g + 1 := ⟨f - 1, by omega⟩
    have q1 : ¬ Int32.ofNat nh ≤ Int32.ofNat i := fun q => by have := (io_le (by omega) (by omega)).mp q; omega
    have e : ru (ru (tH (A.1 13) i r) (28 + 2 * i) (A.1 13 (24 + 5 * i))) (28 + 2 * i + 1) (A.1 13 (24 + (5 * i + 2))) = tH (A.1 13) (i + 1) r := by
      funext k
      unfold ru tH
      by_cases k1 : k = 28 + 2 * i + 1
      · subst k1
        rw [if_pos rfl, if_pos (by omega), show 24 + (5 * ((28 + 2 * i + 1 - 28) / 2) + 2 * ((28 + 2 * i + 1 - 28) % 2)) = 24 + (5 * i + 2) by omega]
      · rw [if_neg k1]
        by_cases k2 : k = 28 + 2 * i
        · subst k2
          rw [if_pos rfl, if_pos (by omega), show 24 + (5 * ((28 + 2 * i - 28) / 2) + 2 * ((28 + 2 * i - 28) % 2)) = 24 + 5 * i by omega]
        · rw [if_neg k2]
          by_cases c2 : 28 ≤ k ∧ k < 40 ∧ (k - 28) / 2 < i
          · rw [if_pos c2, if_pos (by omega)]
          · rw [if_neg c2, if_neg (by omega)]
    unfold f_X7_restart_L65
    rw [sR_ne _ _ (by omega), h1, if_neg q1]
    simp (disch := omega) only [c_item1_0, c_item1_2, f_X7_setHand, ix_c2_0, ix_c2_1, zlE, zbE, sV_eq, sR_at, sR_sR, sR_ne, ru_at, ru_ne, um, m0, io_in, io_cl, eq_self, if_true, ite_true, io_sc, e]
    exact ih (i + 1) f (by omega) (by omega)
theorem c_rst10 {o : Nat} {ex : Int32 → zS → Option (Unit × zS)} {z : Nat} (hz : z = 4999 + 1) (x1 : Int32) (S : zS) : f_X7_restart_L10 o ex z x1 S = if (S.1 12 0) ≤ x1 then ex x1 S else f_X7_restart_L25 o (fun (q15 : Int32) (q16 : Int32) (S14 : zS) => ex q15 S14) zN x1 0 S := by
  subst hz
  rw [f_X7_restart_L10]
theorem c_restart {o : Nat} (ho : 17 ≤ o) (h1 : A.1 12 0 = Int32.ofNat nj) (h2 : A.1 12 1 = Int32.ofNat nh) (n4 : nj ≤ 4) (n6 : nh ≤ 6) : ∃ R, f_X7_restart o A = some ((), sR A (o + 1) R) ∧ ∀ k, k < 66 → R k = toldV (A.1 13) nj nh k := by
  refine ⟨tH (A.1 13) nh (tJ (A.1 13) (3 * nj) (fun k => if k < 66 then 0 else A.1 (o + 1) k)), ?_, fun k hk => ?_⟩
  · have e65 := c_rst65 (A := A) (o := o) ho (r := tJ (A.1 13) (3 * nj) (fun k => if k < 66 then 0 else A.1 (o + 1) k)) h2 n6 nh 0 zN (by omega) (by unfold zN; omega)
    have t0 : ∀ r, tH (A.1 13) 0 r = r := fun r => by funext k; unfold tH; rw [if_neg (by omega)]
    have j0 : ∀ r, tJ (A.1 13) 0 r = r := fun r => by funext k; unfold tJ; rw [if_neg (by omega)]
    rw [t0] at e65
    unfold f_X7_restart
    rw [c_fill (by decide), zbE]
    rw [c_rst10 (z := zN) rfl, sR_ne _ (b := 12) _ (by omega), h1]
    by_cases hn : nj = 0
    · subst hn
      rw [if_pos (show Int32.ofNat 0 ≤ 0 by decide)]
      rw [show 3 * 0 = 0 from rfl, j0] at e65 ⊢
      exact e65
    · have q : ¬ Int32.ofNat nj ≤ 0 := fun q => by have := (io_le (b := 0) (by omega) (by omega)).mp q; omega
      rw [if_neg q]
      have e25 := c_rst25 (A := A) (o := o) ho (ex := fun (q15 : Int32) (q16 : Int32) (S14 : zS) => f_X7_restart_L65 o (fun (q34 : Int32) (S33 : zS) => some ((), S33)) zN 0 S14) (r := fun k => if k < 66 then 0 else A.1 (o + 1) k) h1 n4 _ 0 0 zN (by omega) (by omega) rfl (by unfold zN; omega)
      rw [show 3 * 0 + 0 = 0 from rfl, j0] at e25
      exact e25.trans e65
  · unfold tH tJ toldV
    by_cases c1 : k < 28 ∧ k % 7 < 3 ∧ k / 7 < nj
    · rw [if_neg (by omega), if_pos (by omega), if_pos c1]
    · rw [if_neg c1]
      by_cases c2 : 28 ≤ k ∧ k < 40 ∧ (k - 28) / 2 < nh
      · rw [if_pos c2, if_pos c2]
      · rw [if_neg c2, if_neg c2, if_neg (by omega)]
        exact if_pos hk
/-- the spare scene is as told, but for the vacuum of jars -/
def SpT (nj nh : Nat) (A : zS) : Prop := (∀ j, j < nj → A.1 20 (7 * j + 1) = A.1 13 (6 * j + 1) ∧ A.1 20 (7 * j + 2) = A.1 13 (6 * j + 2)) ∧ ∀ h, h < nh → A.1 20 (28 + 2 * h) = A.1 13 (24 + 5 * h) ∧ A.1 20 (28 + 2 * h + 1) = A.1 13 (24 + (5 * h + 2))
theorem toldV_sp (T : Nat → Int32) (n4 : nj ≤ 4) (n6 : nh ≤ 6) : (∀ j c, j < nj → c < 3 → toldV T nj nh (7 * j + c) = T (6 * j + c)) ∧ ∀ h, h < nh → toldV T nj nh (28 + 2 * h) = T (24 + 5 * h) ∧ toldV T nj nh (28 + 2 * h + 1) = T (24 + (5 * h + 2)) := by
  unfold toldV
  refine ⟨fun j c hj hc => ?_, fun h hh => ⟨?_, ?_⟩⟩
  · rw [if_pos (by omega), show 6 * ((7 * j + c) / 7) + (7 * j + c) % 7 = 6 * j + c by omega]
  · rw [if_neg (by omega), if_pos (by omega), show 24 + (5 * ((28 + 2 * h - 28) / 2) + 2 * ((28 + 2 * h - 28) % 2)) = 24 + 5 * h by omega]
  · rw [if_neg (by omega), if_pos (by omega), show 24 + (5 * ((28 + 2 * h + 1 - 28) / 2) + 2 * ((28 + 2 * h + 1 - 28) % 2)) = 24 + (5 * h + 2) by omega]
/-- a grip as told at first -/
def gripT (W : zLw) (jT hT tT : Nat → Int32) (h : Nat) (t : Option Nat) (j : Nat) : Int32 := clampC (W (hT (5 * h)) (hT (5 * h + 1)) (hT (5 * h + 2)) (jT (6 * j + 4)) (jT (6 * j + 2)) (addsV tT t))
theorem gripT_c {W : zLw} (T : ITold nj nh nt A B) (hS : SpT nj nh A) {h j : Nat} {t : Option Nat} (hh : h < nh) (hj : j < nj) (ht : ∀ k, t = some k → k < nt) : gripM W (A.1 13) (fun k => A.1 13 (24 + k)) (fun k => A.1 13 (54 + k)) (A.1 20) h t j = gripT W (B.1 46) (B.1 48) (B.1 50) h t j := by
  obtain ⟨t1, t2, t3, t4, t5, t6, t7, t8, t9, t10, t11⟩ := T
  have n4 := t11.1
  have n6 := t11.2.1
  have ea : addsV (fun k => A.1 13 (54 + k)) t = addsV (B.1 50) t := by
    cases t with
    | none => rfl
    | some k => exact t10 _ (by have := ht k rfl; omega)
  unfold gripM gripT
  dsimp only
  rw [(hS.2 h hh).1, (hS.2 h hh).2, (hS.1 j hj).2, ea, t9 (5 * h) (by omega), t9 (5 * h + 1) (by omega), t9 (5 * h + 2) (by omega), t8 (6 * j + 4) (by omega), t8 (6 * j + 2) (by omega)]
theorem r_gripTold {W : zLw} (H : LawR B W) {h j : Nat} {t : Option Nat} (hh : h < 6) (hj : j < 4) (ht : ∀ k, t = some k → k < 4) (hL : LBd (B.1 48 (5 * h)) (B.1 48 (5 * h + 1)) (B.1 48 (5 * h + 2)) (B.1 46 (6 * j + 4)) (B.1 46 (6 * j + 2)) (addsV (B.1 50) t)) : ∃ B', f_X12_gripTold (Int32.ofNat h) (toolV t) (Int32.ofNat j) B = some (gripT W (B.1 46) (B.1 48) (B.1 50) h t j, B') ∧ sameR B B' := by
  obtain ⟨v, B', e1, e2, e3⟩ := H B rfl rfl rfl (B.1 48 (5 * h)) (B.1 48 (5 * h + 1)) (B.1 48 (5 * h + 2)) (B.1 46 (6 * j + 4)) (B.1 46 (6 * j + 2)) (addsV (B.1 50) t) hL
  refine ⟨B', ?_, e3⟩
  unfold f_X12_gripTold gripT
  cases t with
  | none =>
    simp (disch := omega) only [toolV, zlE, zbE, sV_eq, sR_at, sR_sR, sR_ne, ru_at, ru_ne, um, m0, io_in, io_cl, eq_self, if_true, ite_true, ix_m7, ix_m6, ix_m5, ix_m2, ix_m4, ix_p1, ix_p2, ix_p3, ix_p4, ix_p5, ix_p6, ix_k28, ix_k40, ix_aa]
    rw [if_neg (fun q => q trivial)]
    unfold addsV at e1 e2
    dsimp only at e1 e2
    rw [e1, zbE, e2, clamp_eq]
    rfl
  | some k =>
    have hk := ht k rfl
    simp (disch := omega) only [toolV, zlE, zbE, sV_eq, sR_at, sR_sR, sR_ne, ru_at, ru_ne, um, m0, io_in, io_cl, eq_self, if_true, ite_true, ix_m7, ix_m6, ix_m5, ix_m2, ix_m4, ix_p1, ix_p2, ix_p3, ix_p4, ix_p5, ix_p6, ix_k28, ix_k40, ix_aa]
    rw [if_pos (io_ne1 (by omega))]
    unfold addsV at e1 e2
    dsimp only at e1 e2
    rw [e1, zbE, e2, clamp_eq]
    rfl
theorem r_opensTold {W : zLw} (H : LawR B W) {h j : Nat} {t : Option Nat} (hh : h < 6) (hj : j < 4) (ht : ∀ k, t = some k → k < 4) (hL : LBd (B.1 48 (5 * h)) (B.1 48 (5 * h + 1)) (B.1 48 (5 * h + 2)) (B.1 46 (6 * j + 4)) (B.1 46 (6 * j + 2)) (addsV (B.1 50) t)) (v : Int32) : ∃ B', f_X12_opensTold (Int32.ofNat h) (toolV t) (Int32.ofNat j) v B = some (if gripT W (B.1 46) (B.1 48) (B.1 50) h t j < v + B.1 46 (6 * j + 1) + 2 * B.1 46 (6 * j + 2) then 0 else 1, B') ∧ sameR B B' := by
  obtain ⟨B', e1, e2⟩ := r_gripTold H hh hj ht hL
  refine ⟨B', ?_, e2⟩
  unfold f_X12_opensTold
  rw [e1, zbE, e2.1 46 (by decide) (by decide)]
  simp (disch := omega) only [ix_m6, ix_p1, ix_p2, io_in, io_cl, if_true]
  split <;> rfl
theorem openers_L {j : Nat} {v : Int32} (hj : j < nj) : ∀ (k h f : Nat) (cnt : Int32) (A B : zS), h + k = nh → k < f → InvD 0 M nj nh nt A B → SpT nj nh A → A.1 20 (7 * j) = v →
    ∃ r A' B', f_X11_openersOf_L20 (fun q16 _ S15 => some (q16, S15)) (Int32.ofNat j) v f cnt (Int32.ofNat h) A = some (r, A') ∧ f_X12_openersOf_L5 (fun q11 _ S10 => some (q11, S10)) (Int32.ofNat j) v f cnt (Int32.ofNat h) B = some (r, B') ∧ InvD 0 M nj nh nt A' B' ∧ SpT nj nh A' := by
  intro k
  induction k with
  | zero =>
    intro h f cnt A B hi hf H hS hv
    obtain ⟨f, rfl⟩ : ∃ g, f = g + 1 := ⟨f - 1, by omega⟩
    have hi : h = nh := by omega
    subst hi
    obtain ⟨t1, t2, t3, t4, t5, t6, t7, t8, t9, t10, t11⟩ := H.told
    unfold f_X11_openersOf_L20 f_X12_openersOf_L5
    rw [t2, t5, if_pos (Int32.le_refl _), if_pos (Int32.le_refl _)]
    exact ⟨cnt, A, B, rfl, rfl, H, hS⟩
  | succ k ih =>
    intro h f cnt A B hi hf H hS hv
    obtain ⟨f, rfl⟩ : ∃ g, f = g + 1 := ⟨f - 1, by omega⟩
    obtain ⟨t1, t2, t3, t4, t5, t6, t7, t8, t9, t10, t11⟩ := H.told
    have n4 := t11.1
    have n6 := t11.2.1
    have hlt : ¬ Int32.ofNat nh ≤ Int32.ofNat h := fun q => by have := (io_le (by omega) (by omega)).mp q; omega
    obtain ⟨W, w1, w2⟩ := H.law
    obtain ⟨A', ga, sa⟩ := c_gripOn w1 (o := 19) (h := h) (j := j) (t := none) (by decide) (by decide) (by omega) (by omega) (fun k hk => by cases hk)
    obtain ⟨B', gb, sb⟩ := r_opensTold w2 (h := h) (j := j) (t := none) (by omega) (by omega) (fun k hk => by cases hk) (tBd_of t11 (by omega) hj (fun k hk => by cases hk)) v
    have ga' : f_X7_gripOn 19 (Int32.ofNat h) (-1) (Int32.ofNat j) A = _ := ga
    have gb' : f_X12_opensTold (Int32.ofNat h) (-1) (Int32.ofNat j) v B = _ := gb
    have a20 : A'.1 20 = A.1 20 := sa.2 20 (by decide) (by decide)
    have a13 : A'.1 13 = A.1 13 := sa.2 13 (by decide) (by decide)
    have H1 := H.obs (obsC_same sa H.longC) (obsR_same sb H.longR)
    have hS1 : SpT nj nh A' := by unfold SpT; rw [a20, a13]; exact hS
    have hh : holdM (A'.1 (19 + 1)) j = v + B.1 46 (6 * j + 1) + 2 * B.1 46 (6 * j + 2) := by
      unfold holdM
      rw [show 19 + 1 = 20 from rfl, a20, hv, (hS.1 j hj).1, (hS.1 j hj).2, t8 (6 * j + 1) (by omega), t8 (6 * j + 2) (by omega)]
    unfold f_X11_openersOf_L20 f_X12_openersOf_L5
    rw [t2, t5, if_neg hlt, if_neg hlt, ga', zbE, c_hold (by omega), zbE, gb', zbE, hh, gripT_c H.told hS (by omega) hj (fun k hk => by cases hk)]
    simp only [zlE, io_sc]
    by_cases hq : gripT W (B.1 46) (B.1 48) (B.1 50) h none j < v + B.1 46 (6 * j + 1) + 2 * B.1 46 (6 * j + 2)
    · rw [if_pos hq, if_pos hq, if_pos rfl, Int32.add_zero]
      exact ih (h + 1) f cnt A' B' (by omega) (by omega) H1 hS1 (by rw [a20]; exact hv)
    · rw [if_neg hq, if_neg hq, if_neg n10]
      exact ih (h + 1) f (cnt + 1) A' B' (by omega) (by omega) H1 hS1 (by rw [a20]; exact hv)
theorem openersOf2 {j : Nat} (hj : j < nj) (v : Int32) (H : InvD 0 M nj nh nt A B) (hS : SpT nj nh A) : ∃ r A' B', f_X11_openersOf (Int32.ofNat j) v A = some (r, A') ∧ f_X12_openersOf (Int32.ofNat j) v B = some (r, B') ∧ InvD 0 M nj nh nt A' B' ∧ SpT nj nh A' := by
  obtain ⟨t1, t2, t3, t4, t5, t6, t7, t8, t9, t10, t11⟩ := H.told
  have n4 := t11.1
  have n6 := t11.2.1
  have sA : sameCo 19 A (sR A 20 (ru (A.1 20) (7 * j) v)) := sameCo.sR (sameC.rfl' A) _
  have H1 := H.obs (sA.obs (by omega) H.longC) H.reflR
  have hS1 : SpT nj nh (sR A 20 (ru (A.1 20) (7 * j) v)) := by
    unfold SpT
    rw [sR_at, sR_ne _ (b := 13) _ (by decide)]
    refine ⟨fun i hi => ?_, fun h hh => ?_⟩
    · rw [ru_ne (by omega), ru_ne (by omega)]
      exact hS.1 i hi
    · rw [ru_ne (by omega), ru_ne (by omega)]
      exact hS.2 h hh
  obtain ⟨r, A', B', z1, z2, z3, z4⟩ := openers_L (M := M) (v := v) hj nh 0 zN 0 _ B (by omega) (by unfold zN; omega) H1 hS1 (by rw [sR_at, ru_at])
  refine ⟨r, A', B', ?_, z2, z3, z4⟩
  unfold f_X11_openersOf
  simp (disch := omega) only [ix_c7_0, io_in, io_cl, if_true, zlE, sV_eq]
  exact z1
theorem rest2 (H : InvD 0 M nj nh nt A B) : ∃ A', f_X7_restart 19 A = some ((), A') ∧ InvD 0 M nj nh nt A' B ∧ SpT nj nh A' ∧ (∀ j, j < nj → A'.1 20 (7 * j) = A'.1 13 (6 * j)) := by
  obtain ⟨t1, t2, t3, t4, t5, t6, t7, t8, t9, t10, t11⟩ := H.told
  obtain ⟨R, e, hR⟩ := c_restart (o := 19) (by decide) t1 t2 t11.1 t11.2.1
  have n4 := t11.1
  have n6 := t11.2.1
  have sA : sameCo 19 A (sR A 20 R) := sameCo.sR (sameC.rfl' A) _
  obtain ⟨v1, v2⟩ := toldV_sp (A.1 13) n4 n6
  refine ⟨_, e, H.obs (sA.obs (by omega) H.longC) H.reflR, ?_, fun j hj => ?_⟩
  · show SpT nj nh (sR A 20 R)
    unfold SpT
    rw [sR_at, sR_ne _ (b := 13) _ (by decide)]
    refine ⟨fun j hj => ⟨?_, ?_⟩, fun h hh => ?_⟩
    · rw [hR _ (by omega)]; exact v1 j 1 hj (by omega)
    · rw [hR _ (by omega)]; exact v1 j 2 hj (by omega)
    · rw [hR _ (by omega), hR _ (by omega)]; exact v2 h hh
  · show (sR A 20 R).1 20 (7 * j) = (sR A 20 R).1 13 (6 * j)
    rw [sR_at, sR_ne _ (b := 13) _ (by decide), hR _ (by omega)]
    exact v1 j 0 hj (by omega)
theorem op_openers (H : InvD 0 M nj nh nt A B) (hM : M < 900000) (v1 v2 : Int32) : Sim M (f_X11_openers v1 v2 A) (f_X12_openers v1 v2 B) := by
  have H0 := H.thr 0
  unfold f_X11_openers f_X12_openers
  rw [zlE]
  generalize sV B 41 0 0 = B0 at H0 ⊢
  obtain ⟨t1, t2, t3, t4, t5, t6, t7, t8, t9, t10, t11⟩ := H0.told
  have n4 := t11.1
  have e0 : (0 : Int64).toInt = 0 := by decide
  have e9 : (99 : Int64).toInt = 99 := by decide
  have f9 : (99 : Int32).toInt = 99 := by decide
  rcases isJar2 t1 t4 (by omega) v1 with ⟨j, hj, rfl, e2, e3⟩ | ⟨e2, e3⟩
  case inr =>
    rw [e2, e3, zbE, zbE, if_pos rfl, if_pos rfl]
    exact Sim.no H0 _
  rw [e2, e3, zbE, zbE, if_neg n10, if_neg n10, if_rng', r_isIn, zbE, e0, e9, ti_0, f9]
  by_cases hv : 0 ≤ v2.toInt ∧ v2.toInt ≤ 99
  case neg =>
    rw [if_neg hv, if_neg hv, if_pos rfl]
    exact Sim.no H0 _
  rw [if_pos hv, if_pos hv, if_neg n10]
  obtain ⟨A1, r1, H1, hS, -⟩ := rest2 H0
  obtain ⟨r, A', B', z1, z2, z3, z4⟩ := openersOf2 hj v2 H1 hS
  rw [r1, zbE, z1, z2, zbE, zbE]
  exact sim_fin z3 (by omega) rfl
theorem factory_L {j : Nat} {least share : Int32} (hj : j < nj) (h0 : 0 ≤ least.toInt) (h9 : least.toInt ≤ 99) : ∀ (v f : Nat) (A B : zS), v ≤ 100 → v < f → InvD 0 M nj nh nt A B → SpT nj nh A →
    ∃ r A' B', f_X11_factory_L41 (fun _ S18 => some ((-1), S18)) (Int32.ofNat j) least share f (Int32.ofNat v - 1) A = some (r, A') ∧ f_X12_factory_L43 (fun _ S20 => some ((-1), S20)) (Int32.ofNat j) least share f (Int32.ofNat v - 1) B = some (r, B') ∧ InvD 0 M nj nh nt A' B' := by
  intro v
  induction v with
  | zero =>
    intro f A B hv hf H hS
    obtain ⟨f, rfl⟩ : ∃ g, f = g + 1 := ⟨f - 1, by omega⟩
    have e : (Int32.ofNat 0 - 1).toInt = -1 := by decide
    have q : Int32.ofNat 0 - 1 < least := by rw [Int32.lt_iff_toInt_lt, e]; omega
    unfold f_X11_factory_L41 f_X12_factory_L43
    rw [if_pos q, if_pos q]
    exact ⟨-1, A, B, rfl, rfl, H⟩
  | succ v ih =>
    intro f A B hv hf H hS
    obtain ⟨f, rfl⟩ : ∃ g, f = g + 1 := ⟨f - 1, by omega⟩
    have e1 : Int32.ofNat (v + 1) - 1 = Int32.ofNat v := by rw [io_m1 (by omega)]; rfl
    have e2 : Int32.ofNat v + (-1) = Int32.ofNat v - 1 := (Int32.sub_eq_add_neg _ _).symm
    unfold f_X11_factory_L41 f_X12_factory_L43
    rw [e1]
    by_cases hl : Int32.ofNat v < least
    · rw [if_pos hl, if_pos hl]
      exact ⟨-1, A, B, rfl, rfl, H⟩
    · obtain ⟨r, A', B', z1, z2, z3, z4⟩ := openersOf2 hj (Int32.ofNat v) H hS
      obtain ⟨t1, t2, t3, t4, t5, t6, t7, t8, t9, t10, t11⟩ := z3.told
      rw [if_neg hl, if_neg hl, z1, z2, zbE, zbE, t2, t5, Int32.mul_comm 100 r, zlE, zlE, e2]
      by_cases hq : r * 100 < Int32.ofNat nh * share
      · rw [if_pos hq, if_pos hq]
        exact ih f A' B' (by omega) (by omega) z3 z4
      · rw [if_neg hq, if_neg hq]
        exact ⟨_, A', B', rfl, rfl, z3⟩
theorem op_factory (H : InvD 0 M nj nh nt A B) (hM : M < 900000) (v1 v2 v3 : Int32) : Sim M (f_X11_factory v1 v2 v3 A) (f_X12_factory v1 v2 v3 B) := by
  have H0 := H.thr 0
  unfold f_X11_factory f_X12_factory
  rw [zlE]
  generalize sV B 41 0 0 = B0 at H0 ⊢
  obtain ⟨t1, t2, t3, t4, t5, t6, t7, t8, t9, t10, t11⟩ := H0.told
  have n4 := t11.1
  have e0 : (0 : Int64).toInt = 0 := by decide
  have e9 : (99 : Int64).toInt = 99 := by decide
  have e10 : (100 : Int64).toInt = 100 := by decide
  have f9 : (99 : Int32).toInt = 99 := by decide
  have f10 : (100 : Int32).toInt = 100 := by decide
  rcases isJar2 t1 t4 (by omega) v1 with ⟨j, hj, rfl, e2, e3⟩ | ⟨e2, e3⟩
  case inr =>
    rw [e2, e3, zbE, zbE, if_pos rfl, if_pos rfl]
    exact Sim.no H0 _
  rw [e2, e3, zbE, zbE, if_neg n10, if_neg n10, if_rng, if_rng', r_isIn, zbE, e0, e9, ti_0, f9, f10]
  by_cases hv : 0 ≤ v2.toInt ∧ v2.toInt ≤ 99
  case neg =>
    rw [if_neg hv, if_neg hv, if_pos rfl]
    exact Sim.no H0 _
  rw [if_pos hv, if_pos hv, if_neg n10, r_isIn, zbE, e0, e10]
  by_cases hw : 0 ≤ v3.toInt ∧ v3.toInt ≤ 100
  case neg =>
    rw [if_neg hw, if_neg hw, if_neg n00]
    exact Sim.no H0 _
  rw [if_pos hw, if_pos hw, if_pos n10]
  obtain ⟨A1, r1, H1, hS, -⟩ := rest2 H0
  rw [r1, zbE]
  obtain ⟨r, A', B', z1, z2, z3⟩ := factory_L (M := M) (share := v3) hj hv.1 hv.2 100 zN A1 B0 (by omega) (by unfold zN; omega) H1 hS
  exact ⟨r, A', B', z1, z2, z3.sim⟩
end NA
