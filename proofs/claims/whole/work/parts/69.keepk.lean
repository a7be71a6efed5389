/-! text: a kitchen kept. -/
section QF
variable {M nj nh nt : Nat} {A B : zS}
theorem sC_g (S : zS) (a sp b dp n c k : Nat) : (sC S a sp b dp n).1 c k = if c = b ∧ dp ≤ k ∧ k < dp + n then S.1 a (sp + (k - dp)) else S.1 c k := Eq.trans rfl rfl
theorem c_keepK {S : zS} (h0 : S.1 5 0 = Int32.ofNat nj) (h1 : S.1 5 1 = Int32.ofNat nh) (n4 : nj ≤ 4) (n6 : nh ≤ 6) : ∃ A', f_X11_keepKitchen S = some (Int32.ofNat nj, A') ∧ A'.2.2 = S.2.2 ∧ (∀ b k, A'.2.1 b k = if b = 14 ∧ k = 2 then .null else S.2.1 b k) ∧ (∀ k, k < 3 → A'.1 12 k = S.1 5 k) ∧ (∀ k, k < 62 → A'.1 13 k = S.1 6 k) ∧ A'.1 1 1 = 0 ∧ A'.1 0 14 = S.1 0 14 ∧ A'.1 0 15 = S.1 0 15 ∧ A'.1 0 16 = -1 ∧ A'.1 0 17 = 1 ∧ (∀ k, k < 66 → A'.1 18 k = toldV (A'.1 13) nj nh k) ∧ A'.1 21 5 = S.1 21 5 ∧ A'.1 21 7 = S.1 21 7 ∧ A'.1 21 6 = 0 ∧ A'.1 21 8 = 0 ∧ A'.1 21 4 = 0 ∧ A'.1 37 1 = 0 ∧ A'.1 37 2 = 0 ∧ ∀ b, 64 ≤ b → A'.1 b = S.1 b := by
  obtain ⟨S2, e2⟩ : ∃ S2, S2 = sC (sC S 5 ((0 : Int32).toNatClampNeg) 12 ((0 : Int32).toNatClampNeg) ((3 : Int32).toNatClampNeg)) 6 ((0 : Int32).toNatClampNeg) 13 ((0 : Int32).toNatClampNeg) ((62 : Int32).toNatClampNeg) := ⟨_, rfl⟩
  have g2 : ∀ b k, S2.1 b k = if b = 13 ∧ k < 62 then S.1 6 k else if b = 12 ∧ k < 3 then S.1 5 k else S.1 b k := by
    intro b k
    have z0 : ((0 : Int32).toNatClampNeg) = 0 := by decide
    have z3 : ((3 : Int32).toNatClampNeg) = 3 := by decide
    have z62 : ((62 : Int32).toNatClampNeg) = 62 := by decide
    rw [e2, z0, z3, z62, sC_g]
    by_cases c1 : b = 13 ∧ k < 62
    · rw [if_pos ⟨c1.1, Nat.zero_le _, by omega⟩, if_pos c1, sC_g, if_neg (fun q => absurd q.1 (by decide)), Nat.zero_add, Nat.sub_zero]
    · rw [if_neg (fun q => c1 ⟨q.1, by omega⟩), if_neg c1, sC_g]
      by_cases c2 : b = 12 ∧ k < 3
      · rw [if_pos ⟨c2.1, Nat.zero_le _, by omega⟩, if_pos c2, Nat.zero_add, Nat.sub_zero]
      · rw [if_neg (fun q => c2 ⟨q.1, by omega⟩), if_neg c2]
  have k2 : S2.2 = S.2 := by rw [e2]; rfl
  obtain ⟨S6, e6⟩ : ∃ S6, S6 = sV (sK (sV S2 1 1 0) 14 2 .null) 0 16 (-1) := ⟨_, rfl⟩
  have g6 : ∀ b k, S6.1 b k = if b = 0 ∧ k = 16 then -1 else if b = 1 ∧ k = 1 then 0 else S2.1 b k := by
    intro b k
    rw [e6, sV_g, sK_1, sV_g]
  have k6 : ∀ b k, S6.2.1 b k = if b = 14 ∧ k = 2 then .null else S.2.1 b k := by
    intro b k
    rw [e6]
    show (sK (sV S2 1 1 0) 14 2 .null).2.1 b k = _
    rw [sK_g, sV_2, k2]
  have k6' : S6.2.2 = S.2.2 := by
    rw [e6]
    show S2.2.2 = S.2.2
    rw [k2]
  have q0 : S6.1 12 0 = Int32.ofNat nj := by rw [g6, if_neg (by decide), if_neg (by decide), g2, if_neg (by decide), if_pos (by decide)]; exact h0
  have q1 : S6.1 12 1 = Int32.ofNat nh := by rw [g6, if_neg (by decide), if_neg (by decide), g2, if_neg (by decide), if_pos (by decide)]; exact h1
  obtain ⟨R, r1, r2⟩ := c_restart (A := S6) (o := 17) (by decide) q0 q1 n4 n6
  obtain ⟨A', eA⟩ : ∃ A', A' = sV (sV (sV (sV (sV (sV (sR S6 18 R) 21 6 0) 21 8 0) 21 4 0) 37 1 0) 37 2 0) 0 17 1 := ⟨_, rfl⟩
  have gA : ∀ b k, A'.1 b k = if b = 0 ∧ k = 17 then 1 else if b = 37 ∧ k = 2 then 0 else if b = 37 ∧ k = 1 then 0 else if b = 21 ∧ k = 4 then 0 else if b = 21 ∧ k = 8 then 0 else if b = 21 ∧ k = 6 then 0 else if b = 18 then R k else S6.1 b k := by
    intro b k
    rw [eA]
    simp only [sV_g]
    by_cases c : b = 18
    · subst c
      rw [sR_at, if_pos rfl]
    · rw [sR_ne _ _ c, if_neg c]
  have kA : A'.2 = S6.2 := by rw [eA]; rfl
  have r13 : ∀ k, A'.1 13 k = S6.1 13 k := fun k => by
    rw [gA]
    simp only [show ¬ (13 : Nat) = 0 by decide, show ¬ (13 : Nat) = 37 by decide, show ¬ (13 : Nat) = 21 by decide, show ¬ (13 : Nat) = 18 by decide, false_and, if_false]
  have f13 : A'.1 13 = S6.1 13 := funext r13
  refine ⟨A', ?_, by rw [kA, k6'], fun b k => by rw [kA, k6], fun k hk => ?_, fun k hk => ?_, ?_, ?_, ?_, ?_, ?_, fun k hk => ?_, ?_, ?_, ?_, ?_, ?_, ?_, ?_, fun b hb => ?_⟩
  · unfold f_X11_keepKitchen f_X10_take_4
    rw [if_pos (by decide), zlE, if_pos (by decide), zlE, zbE, zlE, zlE, zlE, ← e2, ← e6, r1, zbE]
    unfold f_X1_clear f_X3_clear
    rw [zlE, zlE, zlE, zbE, zlE, zlE, zbE, zlE, show (17 + 1 : Nat) = 18 from rfl, ← eA, gA]
    simp only [show ¬ (12 : Nat) = 0 by decide, show ¬ (12 : Nat) = 37 by decide, show ¬ (12 : Nat) = 21 by decide, show ¬ (12 : Nat) = 18 by decide, false_and, if_false]
    rw [q0]
  · rw [gA]
    simp only [show ¬ (12 : Nat) = 0 by decide, show ¬ (12 : Nat) = 37 by decide, show ¬ (12 : Nat) = 21 by decide, show ¬ (12 : Nat) = 18 by decide, false_and, if_false]
    rw [g6, if_neg (fun q => absurd q.1 (by decide)), if_neg (fun q => absurd q.1 (by decide)), g2, if_neg (fun q => absurd q.1 (by decide)), if_pos ⟨rfl, hk⟩]
  · rw [r13, g6, if_neg (fun q => absurd q.1 (by decide)), if_neg (fun q => absurd q.1 (by decide)), g2, if_pos ⟨rfl, hk⟩]
  · rw [gA, g6]; rfl
  · rw [gA, g6, g2]; rfl
  · rw [gA, g6, g2]; rfl
  · rw [gA, g6]; rfl
  · rw [gA]; rfl
  · rw [gA]
    simp only [show ¬ (18 : Nat) = 0 by decide, show ¬ (18 : Nat) = 37 by decide, show ¬ (18 : Nat) = 21 by decide, false_and, if_false]
    rw [if_pos trivial, f13]
    exact r2 k hk
  · rw [gA, g6, g2]; rfl
  · rw [gA, g6, g2]; rfl
  · rw [gA]; rfl
  · rw [gA]; rfl
  · rw [gA]; rfl
  · rw [gA]; rfl
  · rw [gA]; rfl
  · funext k
    rw [gA, if_neg (by omega), if_neg (by omega), if_neg (by omega), if_neg (by omega), if_neg (by omega), if_neg (by omega), if_neg (by omega), g6, if_neg (by omega), if_neg (by omega), g2, if_neg (by omega), if_neg (by omega)]
theorem r_L329 {i1 i2 : Int32} {ex : Int32 → zS → Option (Int32 × zS)} {z : Nat} (hz : z = 4999 + 1) (x3 : Int32) (S : zS) : f_X12_text_L329 ex i1 i2 z x3 S = if (S.1 41 24) ≤ x3 then ex x3 S else f_X12_text_L340 (fun (q59 : Int32) (q60 : Int32) (S58 : zS) => ex q59 S58) i1 i2 zN x3 0 S := by
  subst hz
  rw [f_X12_text_L329]
/-- a row as told at first -/
def tldR (J H : Nat → Int32) (nj nh k : Nat) : Int32 := if k < 28 ∧ k % 7 < 3 ∧ k / 7 < nj then J (6 * (k / 7) + k % 7) else if 28 ≤ k ∧ k < 40 ∧ (k - 28) / 2 < nh then H (5 * ((k - 28) / 2) + 2 * ((k - 28) % 2)) else 0
theorem r_kitE {S : zS} (h0 : S.1 41 27 = Int32.ofNat nj) (h1 : S.1 41 28 = Int32.ofNat nh) (h2 : S.1 41 29 = Int32.ofNat nt) (p0 : 0 < nj) (n4 : nj ≤ 4) (n6 : nh ≤ 6) : ∃ B', kitE S = some (Int32.ofNat nj, B') ∧ B'.2 = S.2 ∧ (∀ k, k < 24 → B'.1 46 k = S.1 47 k) ∧ (∀ k, k < 30 → B'.1 48 k = S.1 49 k) ∧ (∀ k, k < 8 → B'.1 50 k = S.1 51 k) ∧ (∀ k, k < 66 → B'.1 54 k = tldR (S.1 47) (S.1 49) nj nh k) ∧ (∀ b, b ≠ 41 → b ≠ 46 → b ≠ 48 → b ≠ 50 → b ≠ 54 → B'.1 b = S.1 b) ∧ B'.1 41 6 = 0 ∧ B'.1 41 24 = Int32.ofNat nj ∧ B'.1 41 25 = Int32.ofNat nh ∧ B'.1 41 26 = Int32.ofNat nt ∧ B'.1 41 35 = -1 ∧ B'.1 41 50 = 0 ∧ B'.1 41 39 = 0 ∧ B'.1 41 40 = 0 ∧ B'.1 41 53 = 0 ∧ B'.1 41 7 = S.1 41 7 ∧ B'.1 41 32 = S.1 41 32 := by
  obtain ⟨X, eX⟩ : ∃ X, X = sV (sV (sV (sV S 41 6 0) 41 24 (Int32.ofNat nj)) 41 25 (Int32.ofNat nh)) 41 26 (Int32.ofNat nt) := ⟨_, rfl⟩
  have gX : ∀ b k, X.1 b k = if b = 41 ∧ k = 26 then Int32.ofNat nt else if b = 41 ∧ k = 25 then Int32.ofNat nh else if b = 41 ∧ k = 24 then Int32.ofNat nj else if b = 41 ∧ k = 6 then 0 else S.1 b k := by
    intro b k
    rw [eX]
    simp only [sV_g]
  have rX : ∀ b, b ≠ 41 → X.1 b = S.1 b := fun b hb => by
    funext k
    rw [gX]
    simp only [hb, false_and, if_false]
  have kX : X.2 = S.2 := by rw [eX]; rfl
  unfold kitE
  rw [zlE, zlE, zlE]
  have s1 : (sV S 41 6 0).1 41 27 = Int32.ofNat nj := by rw [sV_g, if_neg (by decide)]; exact h0
  have s2 : (sV (sV S 41 6 0) 41 24 (Int32.ofNat nj)).1 41 28 = Int32.ofNat nh := by rw [sV_g, if_neg (by decide), sV_g, if_neg (by decide)]; exact h1
  have s3 : (sV (sV (sV S 41 6 0) 41 24 (Int32.ofNat nj)) 41 25 (Int32.ofNat nh)).1 41 29 = Int32.ofNat nt := by rw [sV_g, if_neg (by decide), sV_g, if_neg (by decide), sV_g, if_neg (by decide)]; exact h2
  rw [s1, s2, s3, ← eX]
  simp only [t_L230', t_L256', t_L282', t_L308', zlE]
  obtain ⟨a1, ea1⟩ : ∃ a1 : Nat → Int32, a1 = fun k => if k < 24 then X.1 47 k else X.1 46 k := ⟨_, rfl⟩
  obtain ⟨a2, ea2⟩ : ∃ a2 : Nat → Int32, a2 = fun k => if k < 30 then (sR X 46 a1).1 49 k else (sR X 46 a1).1 48 k := ⟨_, rfl⟩
  obtain ⟨a3, ea3⟩ : ∃ a3 : Nat → Int32, a3 = fun k => if k < 8 then (sR (sR X 46 a1) 48 a2).1 51 k else (sR (sR X 46 a1) 48 a2).1 50 k := ⟨_, rfl⟩
  obtain ⟨a4, ea4⟩ : ∃ a4 : Nat → Int32, a4 = fun k => if k < 66 then 0 else (sR (sR (sR X 46 a1) 48 a2) 50 a3).1 54 k := ⟨_, rfl⟩
  rw [← ea1, ← ea2, ← ea3, ← ea4]
  have p2 : ∀ k, 0 ≤ k → k < 24 → a1 k = X.1 47 k := fun k _ hk => by rw [ea1]; exact if_pos hk
  have p4 : ∀ k, 0 ≤ k → k < 30 → a2 k = (sR X 46 a1).1 49 k := fun k _ hk => by rw [ea2]; exact if_pos hk
  have p6 : ∀ k, 0 ≤ k → k < 8 → a3 k = (sR (sR X 46 a1) 48 a2).1 51 k := fun k _ hk => by rw [ea3]; exact if_pos hk
  have p8 : ∀ k, 0 ≤ k → k < 66 → a4 k = 0 := fun k _ hk => by rw [ea4]; exact if_pos hk
  obtain ⟨Y, eY⟩ : ∃ Y, Y = sR (sR (sR (sR X 46 a1) 48 a2) 50 a3) 54 a4 := ⟨_, rfl⟩
  rw [← eY]
  have Y41 : Y.1 41 = X.1 41 := by rw [eY, sR_ne _ _ (by decide), sR_ne _ _ (by decide), sR_ne _ _ (by decide), sR_ne _ _ (by decide)]
  have Y46 : Y.1 46 = a1 := by rw [eY, sR_ne _ _ (by decide), sR_ne _ _ (by decide), sR_ne _ _ (by decide), sR_at]
  have Y48 : Y.1 48 = a2 := by rw [eY, sR_ne _ _ (by decide), sR_ne _ _ (by decide), sR_at]
  have Y50 : Y.1 50 = a3 := by rw [eY, sR_ne _ _ (by decide), sR_at]
  have Y54 : Y.1 54 = a4 := by rw [eY, sR_at]
  have Yo : ∀ b, b ≠ 41 → b ≠ 46 → b ≠ 48 → b ≠ 50 → b ≠ 54 → Y.1 b = S.1 b := fun b x1 x2 x3 x4 x5 => by rw [eY, sR_ne _ _ x5, sR_ne _ _ x4, sR_ne _ _ x3, sR_ne _ _ x2, rX b x1]
  have Yk : Y.2 = S.2 := by rw [eY]; exact kX
  have v1 : ∀ k, k < 24 → a1 k = S.1 47 k := fun k hk => by rw [p2 k (by omega) hk, rX 47 (by decide)]
  have v2 : ∀ k, k < 30 → a2 k = S.1 49 k := fun k hk => by rw [p4 k (by omega) hk, sR_ne _ _ (by decide), rX 49 (by decide)]
  have v3 : ∀ k, k < 8 → a3 k = S.1 51 k := fun k hk => by rw [p6 k (by omega) hk, sR_ne _ _ (by decide), sR_ne _ _ (by decide), rX 51 (by decide)]
  have Y24 : Y.1 41 24 = Int32.ofNat nj := by rw [Y41, gX]; rfl
  have Y25 : Y.1 41 25 = Int32.ofNat nh := by rw [Y41, gX]; rfl
  rw [r_L329 (z := zN) rfl, Y24, if_neg (fun q => by have := (io_le (b := 0) (by omega) (by omega)).mp q; omega)]
  obtain ⟨r5, x1, x2, p9, p10⟩ := t_L340 (i1 := 0) (i2 := S.1 41 6) n4 (fun (q59 : Int32) (q60 : Int32) (S58 : zS) => f_X12_text_L384 (fun (q72 : Int32) (S71 : zS) => zl (sV S71 41 35 (-1)) fun S73 => zl (sV S73 41 50 0) fun S74 => zl (sV S74 41 39 0) fun S75 => zl (sV S75 41 40 0) fun S76 => zl (sV S76 41 53 0) fun S77 => some (S77.1 41 24, S77)) 0 (S.1 41 6) zN 0 S58) _ 0 0 zN Y Y24 p0 (by omega) rfl (by unfold zN; omega)
  simp only [zlE] at p9
  rw [show f_X12_text_L340 _ 0 (S.1 41 6) zN 0 0 Y = _ from p9]
  obtain ⟨r6, x3, p11, p12⟩ := t_L384 (i1 := 0) (i2 := S.1 41 6) n6 (fun (q72 : Int32) (S71 : zS) => zl (sV S71 41 35 (-1)) fun S73 => zl (sV S73 41 50 0) fun S74 => zl (sV S74 41 39 0) fun S75 => zl (sV S75 41 40 0) fun S76 => zl (sV S76 41 53 0) fun S77 => some (S77.1 41 24, S77)) nh 0 zN (sR Y 54 r5) (by rw [sR_ne _ _ (by decide)]; exact Y25) (by omega) (by unfold zN; omega)
  simp only [zlE] at p11
  rw [show f_X12_text_L384 _ 0 (S.1 41 6) zN 0 (sR Y 54 r5) = _ from p11]
  rw [sR_sR]
  obtain ⟨Z, eZ⟩ : ∃ Z, Z = sV (sV (sV (sV (sV (sR Y 54 r6) 41 35 (-1)) 41 50 0) 41 39 0) 41 40 0) 41 53 0 := ⟨_, rfl⟩
  have gZ : ∀ k, Z.1 41 k = if k = 53 then 0 else if k = 40 then 0 else if k = 39 then 0 else if k = 50 then 0 else if k = 35 then -1 else X.1 41 k := by
    intro k
    rw [eZ]
    simp only [sV_g, true_and]
    rw [sR_ne _ _ (by decide), Y41]
  have rZ : ∀ b, b ≠ 41 → Z.1 b = (sR Y 54 r6).1 b := fun b hb => by
    funext k
    rw [eZ]
    simp only [sV_g, hb, false_and, if_false]
  refine ⟨Z, ?_, by rw [eZ]; exact Yk, fun k hk => ?_, fun k hk => ?_, fun k hk => ?_, fun k hk => ?_, fun b y1 y2 y3 y4 y5 => ?_, ?_, ?_, ?_, ?_, ?_, ?_, ?_, ?_, ?_, ?_, ?_⟩
  · rw [← eZ]
    rw [show Z.1 41 24 = Int32.ofNat nj by rw [gZ, gX]; rfl]
  · rw [rZ 46 (by decide), sR_ne _ _ (by decide), Y46]; exact v1 k hk
  · rw [rZ 48 (by decide), sR_ne _ _ (by decide), Y48]; exact v2 k hk
  · rw [rZ 50 (by decide), sR_ne _ _ (by decide), Y50]; exact v3 k hk
  · rw [rZ 54 (by decide), sR_at, p12, sR_ne _ _ (by decide), sR_at, p10, Y46, Y48, Y54]
    unfold tldR
    by_cases c1 : k < 28 ∧ k % 7 < 3 ∧ k / 7 < nj
    · rw [if_neg (by omega), if_pos (by omega), if_pos c1]
      exact v1 _ (by omega)
    · rw [if_neg c1]
      by_cases c2 : 28 ≤ k ∧ k < 40 ∧ (k - 28) / 2 < nh
      · rw [if_pos (by omega), if_pos c2]
        exact v2 _ (by omega)
      · rw [if_neg (by omega), if_neg (by omega), if_neg c2]
        exact p8 k (by omega) hk
  · rw [rZ b y1, sR_ne _ _ y5]
    exact Yo b y1 y2 y3 y4 y5
  · rw [gZ, gX]; rfl
  · rw [gZ, gX]; rfl
  · rw [gZ, gX]; rfl
  · rw [gZ, gX]; rfl
  · rw [gZ]; rfl
  · rw [gZ]; rfl
  · rw [gZ]; rfl
  · rw [gZ]; rfl
  · rw [gZ]; rfl
  · rw [gZ, gX]; rfl
  · rw [gZ, gX]; rfl
end QF
