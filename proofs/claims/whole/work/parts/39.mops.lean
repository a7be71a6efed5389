/-! Plans: done. -/
section MV
variable {d M nj nh nt : Nat} {A B : zS}
theorem gripM_cg {W : zLw} {r q : Nat → Int32} (T : ITold nj nh nt A B) (R : RelRow r q) {h j : Nat} {t : Option Nat} (hh : h < nh) (hj : j < nj) (ht : ∀ k, t = some k → k < nt) : gripM W (A.1 13) (fun k => A.1 13 (24 + k)) (fun k => A.1 13 (54 + k)) r h t j = gripM W (B.1 46) (B.1 48) (B.1 50) q h t j := grip_eq T R hh hj ht
theorem toolO_lt {t : Nat} (h : t = 9 ∨ t < nt) (n44 : nt ≤ 4) : ∀ k, toolO t = some k → k < 4 := fun k hk => by
  unfold toolO at hk
  split at hk
  · cases hk
  · cases hk; omega
theorem toolO_n {t : Nat} (h : t = 9 ∨ t < nt) : ∀ k, toolO t = some k → k < nt := fun k hk => by
  unfold toolO at hk
  split at hk
  · cases hk
  · cases hk; omega
theorem act_row {W : zLw} {M' : Nat} {r q : Nat → Int32} (T : ITold nj nh nt A B) (R : IRow (B.1 46) nj M' r q) (hM : M' < 990000) {tb c : Nat} (hb : tb < 4) (hn : tb < nj) (hk : r (7 * tb + 6) = 0) (hc : canN nh nt c) :
    IRow (B.1 46) nj (M' + 60) (actM loC W (A.1 13) (fun k => A.1 13 (24 + k)) (fun k => A.1 13 (54 + k)) nj nh tb c r) (actM loR W (B.1 46) (B.1 48) (B.1 50) nj nh tb c q) := by
  have T' := T
  obtain ⟨t1, t2, t3, t4, t5, t6, t7, t8, t9, t10, t11⟩ := T'
  have n4 := t11.1
  have n6 := t11.2.1
  have n44 := t11.2.2.1
  have ten : bd 10 0 60 := ⟨by decide, by decide⟩
  unfold actM
  rcases hc with h | h | h
  · rcases (show c = 0 ∨ c = 1 ∨ c = 2 ∨ c = 3 ∨ c = 4 by omega) with rfl | rfl | rfl | rfl | rfl
    · exact ⟨R.1.tap hb, (R.2.tap (by omega) hb).mono (by omega)⟩
    · exact ⟨R.1.knock hb, (R.2.knock (by omega) hb).mono (by omega)⟩
    · exact ⟨R.1.hole hb, (R.2.hole (by omega) hb).mono (by omega)⟩
    · show IRow _ _ _ (warmM (A.1 13) tb 10 r) (warmM (B.1 46) tb 10 q)
      rw [warm_cg (t8 _ (by omega))]
      exact ⟨R.1.warm hb 10, (R.2.warm (by omega) hb hn (t11.2.2.2.2.2.1 tb hn).2.2.2.2.2 hk ten).mono (by omega)⟩
    · show IRow _ _ _ (restM _ nj nh 10 r) (restM (B.1 48) nj nh 10 q)
      have ec : restM (fun k => A.1 13 (24 + k)) nj nh 10 r = restM (B.1 48) nj nh 10 r := by
        unfold restM
        rw [restH_cg nh (fun k hk => t9 _ (by omega))]
      rw [ec]
      exact ⟨R.1.rest n4 n6 10, R.2.rest (by omega) ten n4 n6 (fun h hh => (t11.2.2.2.2.2.2.1 h hh).1)⟩
  · rw [if_neg (by omega), if_neg (by omega), if_neg (by omega), if_neg (by omega), if_neg (by omega), if_pos (by omega), if_neg (by omega), if_neg (by omega), if_neg (by omega), if_neg (by omega), if_neg (by omega), if_pos (by omega)]
    exact ⟨R.1.dry (by omega), (R.2.dry (by omega) (by omega)).mono (by omega)⟩
  · obtain ⟨h1, h2, h3, h4⟩ := h
    rw [if_neg (by omega), if_neg (by omega), if_neg (by omega), if_neg (by omega), if_neg (by omega), if_neg (by omega), if_neg (by omega), if_neg (by omega), if_neg (by omega), if_neg (by omega), if_neg (by omega), if_neg (by omega)]
    have hg0 : 0 ≤ (gripM W (B.1 46) (B.1 48) (B.1 50) q ((c - 100) / 10) (toolO ((c - 100) % 10)) tb).toInt := gripM_bd.1
    have z := try_row T R (by omega) hb h3 hg0
    rw [tryR_eq (R.2.tr R.1) hb hg0] at z
    rw [grip_eq T R.1 (by omega) hn (toolO_n h4)]
    exact ⟨z.1, z.2.mono (by omega)⟩
theorem rest_64 {hT : Nat → Int32} {n : Int32} {r : Nat → Int32} : ∀ j h, j ≤ 4 → h ≤ 6 → restM hT j h n r 64 = r 64 := by
  have e1 : ∀ j, j ≤ 4 → restJ n j r 64 = r 64 := by
    intro j
    induction j with
    | zero => intro _; rfl
    | succ j ih => intro hj; unfold restJ; rw [um_ne (by omega)]; exact ih (by omega)
  have e2 : ∀ (q : Nat → Int32) h, h ≤ 6 → restH hT n h q 64 = q 64 := by
    intro q h
    induction h with
    | zero => intro _; rfl
    | succ h ih => intro hj; unfold restH; rw [um_ne (by omega), um_ne (by omega)]; exact ih (by omega)
  intro j h hj hh
  unfold restM
  rw [um_ne (by decide), e2 _ h hh, e1 j hj]
theorem warm_64 {jT : Nat → Int32} {tb : Nat} (hb : tb < 4) (n : Int32) (r : Nat → Int32) : warmM jT tb n r 64 = r 64 := by
  unfold warmM warm3
  split <;> simp (disch := omega) only [um_ne, ru_ne]
theorem act_64 {lo : Nat → Nat → Nat} {W : zLw} {jT hT tT : Nat → Int32} {tb c : Nat} (hb : tb < 4) (n4 : nj ≤ 4) (n6 : nh ≤ 6) (hlo : ∀ h, h < 6 → lo tb h < 64) (hc : canN nh nt c) (r : Nat → Int32) : actM lo W jT hT tT nj nh tb c r 64 = r 64 := by
  have b64 := tap_64 hb r
  unfold actM
  rcases hc with h | h | h
  · rcases (show c = 0 ∨ c = 1 ∨ c = 2 ∨ c = 3 ∨ c = 4 by omega) with rfl | rfl | rfl | rfl | rfl
    · exact b64.1
    · exact b64.2.1
    · exact b64.2.2.1
    · exact warm_64 hb 10 r
    · exact rest_64 nj nh n4 n6
  · rw [if_neg (by omega), if_neg (by omega), if_neg (by omega), if_neg (by omega), if_neg (by omega), if_pos (by omega)]
    unfold dryM
    rw [um_ne (by decide), ru_ne (by omega)]
  · obtain ⟨h1, h2, h3, h4⟩ := h
    rw [if_neg (by omega), if_neg (by omega), if_neg (by omega), if_neg (by omega), if_neg (by omega), if_neg (by omega)]
    exact try_64 hb (by omega) (hlo _ (by omega)) _ _
theorem stepC {x : Int32} (h : stepOk x) : ∃ c, x = Int32.ofNat c ∧ (c < 5 ∨ (10 ≤ c ∧ c < 20) ∨ (100 ≤ c ∧ c < 200)) := by
  rcases h with ⟨v, h1, h2⟩ | ⟨v, h1, h2⟩ | ⟨v, t, h1, h2, h3⟩
  · exact ⟨v, h2, by omega⟩
  · exact ⟨10 + v, h2, by omega⟩
  · exact ⟨100 + 10 * v + t, h3, by omega⟩
theorem can2 {o c : Nat} (hs : c < 5 ∨ (10 ≤ c ∧ c < 20) ∨ (100 ≤ c ∧ c < 200)) (t2 : A.1 12 1 = Int32.ofNat nh) (t3 : A.1 12 2 = Int32.ofNat nt) (s2 : B.1 41 25 = Int32.ofNat nh) (s3 : B.1 41 26 = Int32.ofNat nt) (n6 : nh ≤ 6) (n44 : nt ≤ 4) :
    (canN nh nt c ∧ f_X7_can o (Int32.ofNat c) A = some (1, A) ∧ f_X12_isStep (Int32.ofNat c) B = some (1, B)) ∨ (¬ canN nh nt c ∧ f_X7_can o (Int32.ofNat c) A = some (0, A) ∧ f_X12_isStep (Int32.ofNat c) B = some (0, B)) := by
  have nn : ∀ x : Nat, ¬ Int32.ofNat x < 0 ∨ 2147483648 ≤ x := fun x => by
    by_cases h : x < 2147483648
    · exact Or.inl (fun q => by rw [i_lt0, ti_nat h] at q; omega)
    · exact Or.inr (by omega)
  unfold f_X7_can f_X12_isStep f_X12_isHand
  rw [t2, t3, s2]
  rcases hs with h | h | h
  · have q : ¬ (10 : Int32) ≤ Int32.ofNat c := fun q => by have := (io_le (a := 10) (by omega) (by omega)).mp q; omega
    rw [if_neg q, if_neg q]
    exact Or.inl ⟨Or.inl h, rfl, rfl⟩
  · have q : (10 : Int32) ≤ Int32.ofNat c := (io_le (a := 10) (by omega) (by omega)).mpr (by omega)
    have q1 : ¬ (100 : Int32) ≤ Int32.ofNat c := fun q => by have := (io_le (a := 100) (by omega) (by omega)).mp q; omega
    have q2 : Int32.ofNat c < 100 := (io_lt (b := 100) (by omega) (by omega)).mpr (by omega)
    have e : Int32.ofNat c - 10 = Int32.ofNat (c - 10) := (Int32.ofNat_sub c 10 (by omega)).symm
    have z := (nn (c - 10)).resolve_right (by omega)
    by_cases hc : c - 10 < nh
    · have q3 : ¬ Int32.ofNat nh ≤ Int32.ofNat (c - 10) := fun q => by have := (io_le (by omega) (by omega)).mp q; omega
      refine Or.inl ⟨Or.inr (Or.inl (by omega)), ?_, ?_⟩
      · simp only [q, q1, e, q3, if_true, if_false]
      · simp only [zlE, q, q1, q2, e, q3, z, zbE, n10, if_true, if_false]
    · have q3 : Int32.ofNat nh ≤ Int32.ofNat (c - 10) := (io_le (by omega) (by omega)).mpr (by omega)
      refine Or.inr ⟨fun q => by unfold canN at q; omega, ?_, ?_⟩
      · simp only [q, q1, e, q3, if_true, if_false]
      · simp only [zlE, q, q1, q2, e, q3, z, zbE, n10, if_true, if_false]
  · have q : (10 : Int32) ≤ Int32.ofNat c := (io_le (a := 10) (by omega) (by omega)).mpr (by omega)
    have q1 : (100 : Int32) ≤ Int32.ofNat c := (io_le (a := 100) (by omega) (by omega)).mpr (by omega)
    have q2 : ¬ Int32.ofNat c < 100 := fun q => by have := (io_lt (b := 100) (by omega) (by omega)).mp q; omega
    have z := (nn ((c - 100) / 10)).resolve_right (by omega)
    have e1 : Int32.ofNat c - 100 = Int32.ofNat (c - 100) := io_s100 (by omega)
    have e2 : Int32.ofNat (c - 100) - Int32.ofNat (c - 100) / 10 * 10 = Int32.ofNat ((c - 100) % 10) := io_r10 (by omega)
    have e3 : Int32.ofNat (c - 100) / 10 = Int32.ofNat ((c - 100) / 10) := io_d10 (by omega)
    have e4 : Int32.ofNat c / 10 - Int32.ofNat c / 10 / 10 * 10 = Int32.ofNat ((c - 100) / 10) := by rw [io_d10 (by omega), io_r10 (by omega), show c / 10 % 10 = (c - 100) / 10 by omega]
    have e5 : Int32.ofNat c - Int32.ofNat c / 10 * 10 = Int32.ofNat ((c - 100) % 10) := by rw [io_r10 (by omega), show c % 10 = (c - 100) % 10 by omega]
    by_cases hc : (c - 100) / 10 < nh
    · have q3 : ¬ Int32.ofNat nh ≤ Int32.ofNat ((c - 100) / 10) := fun q => by have := (io_le (by omega) (by omega)).mp q; omega
      by_cases h9 : (c - 100) % 10 = 9
      · have e9 : Int32.ofNat ((c - 100) % 10) = 9 := by rw [h9]; rfl
        refine Or.inl ⟨Or.inr (Or.inr ⟨h.1, h.2, hc, Or.inl h9⟩), ?_, ?_⟩
        · simp only [zlE, q, q1, e1, e2, q3, if_true, if_false]
          rw [if_neg (by rw [e3]; exact q3), if_pos e9]
        · simp only [zlE, q, q1, q2, e4, e5, q3, z, zbE, n10, if_true, if_false]
          rw [if_pos e9]
      · have e9 : ¬ Int32.ofNat ((c - 100) % 10) = 9 := fun q => h9 ((io_eq (b := 9) (by omega) (by omega)).mp q)
        by_cases ht : (c - 100) % 10 < nt
        · have q4 : ¬ Int32.ofNat nt ≤ Int32.ofNat ((c - 100) % 10) := fun q => by have := (io_le (by omega) (by omega)).mp q; omega
          refine Or.inl ⟨Or.inr (Or.inr ⟨h.1, h.2, hc, Or.inr ht⟩), ?_, ?_⟩
          · simp only [zlE, q, q1, e1, e2, q3, if_true, if_false]
            rw [if_neg (by rw [e3]; exact q3), if_neg e9, if_neg q4]
          · simp only [zlE, q, q1, q2, e4, e5, q3, z, zbE, n10, s3, if_true, if_false]
            rw [if_neg e9, if_neg q4]
        · have q4 : Int32.ofNat nt ≤ Int32.ofNat ((c - 100) % 10) := (io_le (by omega) (by omega)).mpr (by omega)
          refine Or.inr ⟨fun q => by unfold canN at q; omega, ?_, ?_⟩
          · simp only [zlE, q, q1, e1, e2, q3, if_true, if_false]
            rw [if_neg (by rw [e3]; exact q3), if_neg e9, if_pos q4]
          · simp only [zlE, q, q1, q2, e4, e5, q3, z, zbE, n10, s3, if_true, if_false]
            rw [if_neg e9, if_pos q4]
    · have q3 : Int32.ofNat nh ≤ Int32.ofNat ((c - 100) / 10) := (io_le (by omega) (by omega)).mpr (by omega)
      refine Or.inr ⟨fun q => by unfold canN at q; omega, ?_, ?_⟩
      · simp only [zlE, q, q1, e1, e2, if_true]
        rw [if_pos (by rw [e3]; exact q3)]
      · simp only [zlE, q, q1, q2, e4, e5, q3, z, zbE, n10, if_true, if_false]
/-- behind an act by its number the act is noted -/
theorem act_end2 {M' : Nat} {A2 B2 : zS} (H1 : InvD 1 M nj nh nt A B) (hA : sameCo 17 A A2) (hB : sameRw 54 B B2) (hM : M ≤ M') (hr : IRow (B.1 46) nj M' (A2.1 18) (B2.1 54)) (c : Int32) :
    ∃ A3 B3, f_X1_note c (A2.1 18 65) A2 = some ((), A3) ∧ f_X12_writes c B2 = some ((), B3) ∧ InvD 0 M' nj nh nt A3 B3 ∧ A3.1 18 = A2.1 18 ∧ B3.1 54 = B2.1 54 ∧ A3.2 = A.2 ∧ B3.2.2 = B.2.2 ∧ A3.1 0 = A.1 0 ∧ B3.2.1 41 51 = B.2.1 41 51 := by
  have sa : sameC A (sR A2 18 (A.1 18)) := ⟨hA.1, fun b h1 h2 => by
    by_cases hb : b = 18
    · subst hb; rw [sR_at]
    · rw [sR_ne _ _ hb]; exact hA.2 b hb h1 h2⟩
  have sb : sameR B (sR B2 54 (B.1 54)) := ⟨fun b h1 h2 => by
    by_cases hb : b = 54
    · subst hb; rw [sR_at]
    · rw [sR_ne _ _ hb]; exact hB.1 b h1 h2 hb, fun k h1 h2 => by rw [sR_ne _ _ (by decide)]; exact hB.2.1 k h1 h2, hB.2.2.1, hB.2.2.2⟩
  have z := act_end H1 sa sb hM hr c
  rw [sR_sR, sR_self, sR_sR, sR_self] at z
  exact z
theorem plan_at (H : InvD d M nj nh nt A B) {p a m np : Nat} (hpa : A.2.1 40 p = .ref a) (hma : A.2.2.1 a = m) (n1 : A.1 0 15 = Int32.ofNat np) (n2 : np ≤ 4) (n3 : p < np) : 64 ≤ a ∧ a < A.2.2.2 ∧ 1 ≤ m ∧ m ≤ 16 ∧ B.1 53 p = Int32.ofNat m ∧ ∀ i, i < m → A.1 a i = B.1 52 (16 * p + i) ∧ stepOk (A.1 a i) := by
  obtain ⟨u, -, -, -, -, ⟨np', p0, p1, p2, p3⟩, -⟩ := H
  have : np = np' := (io_eq (by omega) (by omega)).mp (n1.symm.trans p1)
  subst this
  obtain ⟨a', m', z1, z2, z3, z4, z5, z6, z7, z8⟩ := p3 p n3
  rw [hpa] at z1
  cases z1
  rw [hma] at z6
  subst z6
  exact ⟨z2, z3, z4, z5, z7, z8⟩
theorem perform_L {p a m np : Nat} {v : Int32} (n2 : np ≤ 4) (n3 : p < np) (hMx : M < 900000) (hnj : 0 < nj) : ∀ (k i f : Nat) (cnt : Int32) (A B : zS), i + k = m → k < f → m ≤ 16 → InvD 0 (M + 60 * i) nj nh nt A B → A.2.1 40 p = .ref a → A.2.2.1 a = m → A.1 0 15 = Int32.ofNat np →
    ∃ r A' B', f_X11_perform_L24 a (fun q39 _ S38 => some (q39, S38)) v f cnt (Int32.ofNat i) A = some (r, A') ∧ f_X12_perform_L34 (fun q37 _ S36 => some (q37, S36)) (Int32.ofNat p) f cnt (Int32.ofNat i) B = some (r, B') ∧ Inv (M + 1000) A' B' := by
  intro k
  induction k with
  | zero =>
    intro i f cnt A B hi hf hm H hpa hma hnp
    obtain ⟨f, rfl⟩ : ∃ g, f = g + 1 := ⟨f - 1, by omega⟩
    have hi : i = m := by omega
    subst hi
    obtain ⟨z2, z3, z4, z5, z7, z8⟩ := plan_at H hpa hma hnp n2 n3
    unfold f_X11_perform_L24 f_X12_perform_L34
    rw [hma, if_pos (Int32.le_refl _), if_pos (io_in (by omega) (by omega)), io_cl (a := p) (by omega), z7, if_pos (Int32.le_refl _)]
    exact ⟨cnt, A, B, rfl, rfl, nj, nh, nt, H.mono (by omega)⟩
  | succ k ih =>
    intro i f cnt A B hi hf hm H hpa hma hnp
    obtain ⟨f, rfl⟩ : ∃ g, f = g + 1 := ⟨f - 1, by omega⟩
    obtain ⟨z2, z3, z4, z5, z7, z8⟩ := plan_at H hpa hma hnp n2 n3
    have hlt : ¬ Int32.ofNat m ≤ Int32.ofNat i := fun q => by have := (io_le (by omega) (by omega)).mp q; omega
    unfold f_X11_perform_L24 f_X12_perform_L34
    rw [hma, if_neg hlt, if_pos (io_in (show p < 5 by omega) (by omega)), io_cl (a := p) (by omega), z7, if_neg hlt]
    rcases shut2 H with ⟨tb, b1, b2, b3, b4, b5, b6, e2, -, e3⟩ | ⟨e2, e3, e4⟩
    case inr =>
      rw [e2, e4 hnj, zbE, zbE, if_pos rfl, if_pos n10]
      exact ⟨cnt, A, B, rfl, rfl, nj, nh, nt, H.mono (by omega)⟩
    obtain ⟨x1, x2⟩ := z8 i (by omega)
    obtain ⟨c, hc, hs⟩ := stepC x2
    obtain ⟨t1, t2, t3, t4, t5, t6, t7, t8, t9, t10, t11⟩ := H.told
    rw [e2, e3, zbE, zbE, if_neg n10, if_neg n00, hma, if_pos (io_in (show i < m by omega) (by omega)), io_cl (a := i) (by omega), hc]
    rw [hc] at x1
    simp (disch := omega) only [ix_m16, ix_aa, io_in, io_cl, if_true, ← x1, zlE, io_sc]
    rcases can2 (A := A) (B := B) (o := 17) hs t2 t3 t5 t6 t11.2.1 t11.2.2.1 with ⟨hcan, c1, c2⟩ | ⟨hcan, c1, c2⟩
    case inr =>
      rw [c1, c2, zbE, zbE, if_pos rfl, if_neg n00]
      exact ih (i + 1) f cnt A B (by omega) (by omega) hm (H.mono (by omega)) hpa hma hnp
    rw [c1, c2, zbE, zbE, if_neg n10, if_pos n10]
    obtain ⟨A1, B1, k1, k2, H1, fA, fB⟩ := keep_ok H
    obtain ⟨W, w1, w2⟩ := H1.law
    obtain ⟨s1, s2, s3, s4, s5, s6, s7, s8, s9, s10, s11⟩ := H1.told
    have b3' : A1.1 18 64 = Int32.ofNat tb := by rw [fA.2 18 (by decide) (by decide)]; exact b3
    have b4' : B1.1 54 64 = Int32.ofNat tb := by rw [fB.2.1 54 (by decide) (by decide)]; exact b4
    have b6' : A1.1 18 (7 * tb + 6) = 0 := by rw [fA.2 18 (by decide) (by decide)]; exact b6
    obtain ⟨A2, g1, g2, g3⟩ := c_act (nt := nt) w1 (o := 17) (tb := tb) (c := c) (by decide) (by decide) b3' b2 s1 s2 s11.1 s11.2.1 s11.2.2.1 hcan
    obtain ⟨B2, h1, h2, h3⟩ := r_does (nt := nt) w2 (w := 54) (tb := tb) (c := c) (by decide) (H1.row.2.tr H1.row.1) b4' b2 s4 s5 s11.1 s11.2.1 s11.2.2.1 s11 hcan
    have hr := act_row (W := W) H1.told H1.row (by omega) b2 b1 b6' hcan
    rw [← g3, ← h3] at hr
    obtain ⟨A3, B3, m1, m2, H3, y1, y2, y3, y4, y5, -⟩ := act_end2 H1 g2 h2 (by omega) hr (Int32.ofNat c)
    have ea : A1.1 a = A.1 a := fA.2 a (by omega) (by omega)
    have ea2 : A2.1 a = A.1 a := (g2.2 a (by omega) (by omega) (by omega)).trans ea
    have A2m : A2.2.2.1 a = m := by rw [g2.1, fA.1]; exact hma
    have A1m : A1.2.2.1 a = m := by rw [fA.1]; exact hma
    rw [k1, k2, zbE, zbE, A1m, if_pos (io_in (show i < m by omega) (by omega)), ea, hc, g1, zbE, A2m, if_pos (io_in (show i < m by omega) (by omega)), c_minute, zbE, ea2, hc, m1, zbE, h1, zbE, m2, zbE]
    have e32 : A3.2 = A.2 := y3.trans fA.1
    refine ih (i + 1) f (cnt + 1) A3 B3 (by omega) (by omega) hm (H3.mono (by omega)) (by rw [e32]; exact hpa) (by rw [e32]; exact hma) ?_
    rw [y5, fA.2 0 (by decide) (by decide)]
    exact hnp
theorem op_perform (H : InvD 0 M nj nh nt A B) (hM : M < 900000) (v : Int32) : Sim M (f_X11_perform v A) (f_X12_perform v B) := by
  have H0 := H.thr 0
  unfold f_X11_perform f_X12_perform f_X11_stepsOf
  rw [zlE]
  generalize sV B 41 0 0 = B0 at H0 ⊢
  have H0' := H0
  obtain ⟨u, h1, h2, h3, h4, ⟨np, p0, p1, p2, p3⟩, -⟩ := H0
  have e0 : (0 : Int64).toInt = 0 := by decide
  have el : ((Int32.ofNat np - 1).toInt64).toInt = (np : Int) - 1 := by
    rw [Int32.toInt_toInt64, ti_sub (by rw [ti_nat (by omega), ti_1]; omega), ti_nat (by omega), ti_1]
  have rZ : ∀ X Y : zS → Option (Int32 × zS), (zb (f_X12_isIn v.toInt64 0 (((B0.1 41 32) - 1).toInt64) B0) fun r7 S6 => if ¬ r7 = 0 then X S6 else Y S6) = if 0 ≤ v.toInt ∧ v.toInt ≤ (np : Int) - 1 then X B0 else Y B0 := by
    intro X Y
    rw [p2, r_isIn, e0, el, zbE]
    by_cases hv : 0 ≤ v.toInt ∧ v.toInt ≤ (np : Int) - 1
    · rw [if_pos hv, if_pos hv, if_pos n10]
    · rw [if_neg hv, if_neg hv, if_neg n00]
  rw [p1]
  rcases idx v np (by omega) with ⟨p, hp, rfl⟩ | h
  · have q0 : ¬ Int32.ofNat p < 0 := fun q => by rw [i_lt0, ti_nat (by omega)] at q; omega
    have q1 : ¬ Int32.ofNat np ≤ Int32.ofNat p := fun q => by rw [io_le (by omega) (by omega)] at q; omega
    have q3 : 0 ≤ (Int32.ofNat p).toInt ∧ (Int32.ofNat p).toInt ≤ (np : Int) - 1 := by rw [ti_nat (by omega)]; omega
    obtain ⟨a, m, z1, z2, z3, z4, z5, z6, z7, z8⟩ := p3 p hp
    rw [if_neg q0, if_neg q1, if_pos (io_in (by omega) (by omega)), io_cl (by omega), z1]
    show Sim M (zb (if 64 ≤ a ∧ a < A.2.2.2 then _ else none) _) _
    rw [if_pos ⟨z2, z3⟩, zbE]
    show Sim M (if 64 ≤ a ∧ a < A.2.2.2 then _ else none) _
    rw [if_pos ⟨z2, z3⟩]
    rcases shut2 H0' with ⟨tb, b1, b2, b3, b4, b5, b6, e2, e3, -⟩ | ⟨e2, e3, -⟩
    · rw [e2, e3, zbE, zbE, if_pos n10, if_neg n10, rZ, if_pos q3]
      obtain ⟨r, A', B', f1, f2, f3⟩ := perform_L (M := M) (v := Int32.ofNat p) p0 hp hM (by omega) m 0 zN 0 A B0 (by omega) (by unfold zN; omega) z5 (H0'.mono (by omega)) z1 z6 p1
      exact ⟨r, A', B', f1, f2, f3⟩
    · rw [e2, e3, zbE, zbE, if_neg n00, if_pos rfl]
      exact Sim.no H0' _
  · have q3 : ¬ (0 ≤ v.toInt ∧ v.toInt ≤ (np : Int) - 1) := by omega
    have eC : ∀ X : Int32 → zS → Option (Int32 × zS), True := fun _ => trivial
    have eS : (if v < 0 then some (Value.null, A) else if Int32.ofNat np ≤ v then some (.null, A) else if ia_in v 4 = true then zkr (A.2.1 40 v.toNatClampNeg) (some (.null, A)) fun a4 => if 64 ≤ a4 ∧ a4 < A.2.2.2 then some (.ref a4, A) else none else none) = some (.null, A) := by
      by_cases h0 : v < 0
      · rw [if_pos h0]
      · rw [if_neg h0, if_pos ((i_le0 (by omega)).mpr (by rw [i_lt0] at h0; omega))]
    rw [eS, zbE]
    show Sim M (some (-1, A)) _
    rcases shut2 H0' with ⟨tb, b1, b2, b3, b4, b5, b6, e2, e3, -⟩ | ⟨e2, e3, -⟩
    · rw [e3, zbE, if_neg n10, rZ, if_neg q3]
      exact Sim.no H0' _
    · rw [e3, zbE, if_pos rfl]
      exact Sim.no H0' _
end MV
