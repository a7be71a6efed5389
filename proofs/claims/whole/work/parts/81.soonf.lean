/-! soonest. -/
section SJ
variable {W : zLw} {nj nh nt tb M : Nat} {hole : Int32} {A B A0 B0 : zS} {r q : Nat → Int32}
def sU (A A' : zS) : Prop := A'.2 = A.2 ∧ ∀ b, b ≠ 15 → b ≠ 16 → b ≠ 28 → b ≠ 29 → b ≠ 30 → b ≠ 32 → b ≠ 34 → A'.1 b = A.1 b
theorem sU.rfl' (A : zS) : sU A A := ⟨rfl, fun _ _ _ _ _ _ _ _ => rfl⟩
theorem sU.tr {A B C : zS} (h1 : sU A B) (h2 : sU B C) : sU A C := ⟨h2.1.trans h1.1, fun b x y z u v w t => (h2.2 b x y z u v w t).trans (h1.2 b x y z u v w t)⟩
theorem sU.ofT {A B : zS} (h : sT A B) : sU A B := ⟨h.1, fun b x y z u v _ w => h.2 b x y z u v w⟩
theorem sU.ofo {A B : zS} (h : sameCo 31 A B) : sU A B := ⟨h.1, fun b x y _ _ _ z _ => h.2 b z x y⟩
/-- what the class asks of a first act -/
def cON (act : Nat → (Nat → Int32) → Nat → Int32) (ac : Nat → Prop) (W : zLw) (jT hT tT : Nat → Int32) (nh nt tb n c : Nat) (r : Nat → Int32) : Prop := if n = 1 then cO1 act tb c r else if n = 2 then cO2 act W jT hT tT nh nt tb c r else cO3 act ac W jT hT tT nh nt tb c r
theorem c_first {n len : Nat} {a : Nat → Nat} {T : Nat → Int32} (hn : n ≤ 41) (hl : 1 ≤ len) (hl3 : len ≤ 3) (hM : M < 900000) (T0 : ITold nj nh nt A0 B0) (eT : T = A0.1 13) (I : IRow (B0.1 46) nj M r q) (h64 : r 64 = Int32.ofNat tb) (h6 : r (7 * tb + 6) = 0) (hb : tb < 4) (hbn : tb < nj) : ∀ (m i f : Nat) (A : zS), i + m = n → m < f → Cx W nj nh nt tb T A → Lst nh nt hole 160 n a A → A.1 18 = r →
    (∀ j, j < i → ¬ cON (actM loC W T (fun k => T (24 + k)) (fun k => T (54 + k)) nj nh tb) (acN nh nt hole) W T (fun k => T (24 + k)) (fun k => T (54 + k)) nh nt tb len (a j) r) →
    ∃ A', sU A A' ∧ Cx W nj nh nt tb T A' ∧ ((∃ j, j < n ∧ f_X8_firstOf_17_L2 (fun (q37 : Int32) (S36 : zS) => some ((-1), S36)) (Int32.ofNat len) f (Int32.ofNat i) A = some (Int32.ofNat (a j), A') ∧ cON (actM loC W T (fun k => T (24 + k)) (fun k => T (54 + k)) nj nh tb) (acN nh nt hole) W T (fun k => T (24 + k)) (fun k => T (54 + k)) nh nt tb len (a j) r ∧ ∀ j', j' < j → ¬ cON (actM loC W T (fun k => T (24 + k)) (fun k => T (54 + k)) nj nh tb) (acN nh nt hole) W T (fun k => T (24 + k)) (fun k => T (54 + k)) nh nt tb len (a j') r) ∨
      (f_X8_firstOf_17_L2 (fun (q37 : Int32) (S36 : zS) => some ((-1), S36)) (Int32.ofNat len) f (Int32.ofNat i) A = some (-1, A') ∧ ∀ j, j < n → ¬ cON (actM loC W T (fun k => T (24 + k)) (fun k => T (54 + k)) nj nh tb) (acN nh nt hole) W T (fun k => T (24 + k)) (fun k => T (54 + k)) nh nt tb len (a j) r)) := by
  have t11 := T0.2.2.2.2.2.2.2.2.2.2
  have n4 := t11.1
  have n6 := t11.2.1
  have n44 := t11.2.2.1
  have h3 : ∀ h, h < nh → 0 ≤ (T (24 + (5 * h + 3))).toInt := fun h hh => by
    rw [eT, T0.2.2.2.2.2.2.2.2.1 _ (by omega)]
    exact (t11.2.2.2.2.2.2.1 h hh).2.2.2.1.1
  intro m
  induction m with
  | zero =>
    intro i f A hi hf C L e18 p
    obtain ⟨f, rfl⟩ : ∃ g, f = g + 1 := ⟨f - 1, by omega⟩
    have hi : i = n := by omega
    subst hi
    refine ⟨A, sU.rfl' A, C, Or.inr ⟨?_, fun j hj => p j hj⟩⟩
    unfold f_X8_firstOf_17_L2
    rw [L.1, if_pos (Int32.le_refl _)]
  | succ m ih =>
    intro i f A hi hf C L e18 p
    obtain ⟨f, rfl⟩ : ∃ g, f = g + 1 := ⟨f - 1, by omega⟩
    have ha := (L.2.2.2.1 i (by omega)).1
    have e27 := L.2.1 i (by omega)
    have eA : f_X7_take 31 17 A = some ((), sR A 32 (cpy (A.1 18) (A.1 32) 0 0 66)) := by rw [c_take, sC_eq]
    obtain ⟨A1, hA1⟩ : ∃ A1, A1 = sR A 32 (cpy (A.1 18) (A.1 32) 0 0 66) := ⟨_, rfl⟩
    rw [← hA1] at eA
    have s1 : sU A A1 := by rw [hA1]; exact ⟨rfl, fun b _ _ _ _ _ x _ => sR_ne _ _ x⟩
    have E1 : E66 r (A1.1 32) := by
      rw [hA1, sR_at, e18]
      exact fun k hk => (cpy_0 hk).symm
    have C1 : Cx W nj nh nt tb T A1 := C.up s1.1 (fun b _ _ x _ => by rw [hA1]; exact sR_ne _ _ x)
    have e27' : A1.1 27 i = Int32.ofNat (a i) := by rw [s1.2 27 (by decide) (by decide) (by decide) (by decide) (by decide) (by decide) (by decide)]; exact e27
    obtain ⟨A2, v1, v2, v3, v4, v5⟩ := c_actOn 31 (Or.inl rfl) C1 E1 h64 hb n4 n6 n44 ha.2.1
    have I2 := act_row (W := W) T0 I (by omega) hb hbn h6 ha.2.1
    rw [← eT] at I2
    have s2 := s1.tr (sU.ofo v2)
    have e5 := v3 (7 * tb + 5) (by omega)
    have e6 := v3 (7 * tb + 6) (by omega)
    obtain ⟨r', hr'⟩ : ∃ r', r' = actM loC W T (fun k => T (24 + k)) (fun k => T (54 + k)) nj nh tb (a i) r := ⟨_, rfl⟩
    have g64 : r' 64 = Int32.ofNat tb := by rw [hr', act_64 hb n4 n6 (fun h hh => by unfold loC; omega) ha.2.1]; exact h64
    have fin : ∀ (v : Int32) (A3 : zS), sU A A3 → Cx W nj nh nt tb T A3 → ((v = 1 ∧ cON (actM loC W T (fun k => T (24 + k)) (fun k => T (54 + k)) nj nh tb) (acN nh nt hole) W T (fun k => T (24 + k)) (fun k => T (54 + k)) nh nt tb len (a i) r) ∨ (v = 0 ∧ ¬ cON (actM loC W T (fun k => T (24 + k)) (fun k => T (54 + k)) nj nh tb) (acN nh nt hole) W T (fun k => T (24 + k)) (fun k => T (54 + k)) nh nt tb len (a i) r)) →
        ∀ X : Option (Int32 × zS), X = (if v = 0 then zl (Int32.ofNat i + 1) fun (y14 : Int32) => f_X8_firstOf_17_L2 (fun (q37 : Int32) (S36 : zS) => some ((-1), S36)) (Int32.ofNat len) f y14 A3 else if true = true then some (A3.1 27 i, A3) else none) →
        ∃ A', sU A A' ∧ Cx W nj nh nt tb T A' ∧ ((∃ j, j < n ∧ X = some (Int32.ofNat (a j), A') ∧ cON (actM loC W T (fun k => T (24 + k)) (fun k => T (54 + k)) nj nh tb) (acN nh nt hole) W T (fun k => T (24 + k)) (fun k => T (54 + k)) nh nt tb len (a j) r ∧ ∀ j', j' < j → ¬ cON (actM loC W T (fun k => T (24 + k)) (fun k => T (54 + k)) nj nh tb) (acN nh nt hole) W T (fun k => T (24 + k)) (fun k => T (54 + k)) nh nt tb len (a j') r) ∨
          (X = some (-1, A') ∧ ∀ j, j < n → ¬ cON (actM loC W T (fun k => T (24 + k)) (fun k => T (54 + k)) nj nh tb) (acN nh nt hole) W T (fun k => T (24 + k)) (fun k => T (54 + k)) nh nt tb len (a j) r)) := by
      intro v A3 s3 C3 hv X hX
      have g : ∀ b, b = 26 ∨ b = 27 ∨ b = 18 → A3.1 b = A.1 b := fun b hb => s3.2 b (by omega) (by omega) (by omega) (by omega) (by omega) (by omega) (by omega)
      rcases hv with ⟨rfl, hv⟩ | ⟨rfl, hv⟩
      · rw [if_neg (show ¬ (1 : Int32) = 0 by decide), if_pos rfl, g 27 (by decide), e27] at hX
        exact ⟨A3, s3, C3, Or.inl ⟨i, by omega, hX, hv, p⟩⟩
      · rw [if_pos rfl, zlE, io_sc] at hX
        obtain ⟨A', x1, x2, x3⟩ := ih (i + 1) f A3 (by omega) (by omega) C3 (L.cg (g 26 (by decide)) (g 27 (by decide))) (by rw [g 18 (by decide)]; exact e18) (fun j hj => by
          by_cases e : j = i
          · rw [e]; exact hv
          · exact p j (by omega))
        rw [hX]
        exact ⟨A', s3.tr x1, x2, x3⟩
    unfold f_X8_firstOf_17_L2
    rw [L.1, if_neg (show ¬ Int32.ofNat n ≤ Int32.ofNat i from fun q => by have := (io_le (by omega) (by omega)).mp q; omega), eA, zbE, io_in (by omega) (by omega), if_pos rfl, io_cl (by omega), e27', v1, zbE, zlE]
    rcases (show len = 1 ∨ len = 2 ∨ len = 3 by omega) with rfl | rfl | rfl
    · rw [if_neg (nn (show Int32.ofNat 1 = 1 from rfl)), c_lid (x := 5) (c := 5) v5 hb (by decide) rfl, zbE, zlE, ← e5]
      by_cases c5 : actM loC W T (fun k => T (24 + k)) (fun k => T (54 + k)) nj nh tb (a i) r (7 * tb + 5) = 1
      · rw [if_neg (nn c5)]
        exact fin 1 A2 s2 v4 (Or.inl ⟨rfl, by unfold cON; rw [if_pos rfl]; exact c5⟩) _ rfl
      · rw [if_pos c5]
        exact fin 0 A2 s2 v4 (Or.inr ⟨rfl, by unfold cON; rw [if_pos rfl]; exact c5⟩) _ rfl
    · rw [if_pos (show ¬ Int32.ofNat 2 = 1 by decide), c_lid (x := 6) (c := 6) v5 hb (by decide) rfl, zbE, ← e6]
      by_cases c6 : actM loC W T (fun k => T (24 + k)) (fun k => T (54 + k)) nj nh tb (a i) r (7 * tb + 6) = 1
      · rw [if_neg (nn c6)]
        exact fin 0 A2 s2 v4 (Or.inr ⟨rfl, by unfold cON; rw [if_neg (by decide), if_pos rfl]; exact fun q => q.1 c6⟩) _ rfl
      · rw [if_pos c6, zlE, if_neg (nn (show Int32.ofNat 2 = 2 from rfl))]
        obtain ⟨v, A3, w1, w2, w3, w4⟩ := c_byTry (o := 31) (Or.inl rfl) v4 v5 hb n6 n44 ((RB.of I2.2 hb).cg v3 hb)
        rw [← v3.by hb n6] at w2
        rw [w1, zbE]
        refine fin v A3 (s2.tr (sU.ofT (sT.ofG w3))) w4 ?_ _ rfl
        unfold cON
        rw [if_neg (show ¬ 2 = 1 by decide), if_pos rfl]
        exact w2.imp (fun q => ⟨q.1, c6, q.2⟩) (fun q => ⟨q.1, fun z => q.2 z.2⟩)
    · rw [if_pos (show ¬ Int32.ofNat 3 = 1 by decide), c_lid (x := 6) (c := 6) v5 hb (by decide) rfl, zbE, ← e6]
      by_cases c6 : actM loC W T (fun k => T (24 + k)) (fun k => T (54 + k)) nj nh tb (a i) r (7 * tb + 6) = 1
      · rw [if_neg (nn c6)]
        exact fin 0 A2 s2 v4 (Or.inr ⟨rfl, by unfold cON; rw [if_neg (by decide), if_neg (by decide)]; exact fun q => q.1 c6⟩) _ rfl
      · rw [if_pos c6, zlE, if_pos (show ¬ Int32.ofNat 3 = 2 by decide)]
        have z6 : actM loC W T (fun k => T (24 + k)) (fun k => T (54 + k)) nj nh tb (a i) r (7 * tb + 6) = 0 := ((I2.2.2.1 tb hb).2.2.2.2.2.1).resolve_right c6
        have g2 : ∀ b, b = 26 ∨ b = 27 → A2.1 b = A.1 b := fun b hb => s2.2 b (by omega) (by omega) (by omega) (by omega) (by omega) (by omega) (by omega)
        have hA2 : ∀ c, acN nh nt hole c → RowOk (B0.1 46) nj (M + 60 + 60) (actM loC W T (fun k => T (24 + k)) (fun k => T (54 + k)) nj nh tb c (actM loC W T (fun k => T (24 + k)) (fun k => T (54 + k)) nj nh tb (a i) r)) := fun c hc => by
          have := (act_row (W := W) T0 I2 (by omega) hb hbn z6 hc.2.1).2
          rw [← eT] at this
          exact this
        obtain ⟨v, A3, w1, w3, w4, w2⟩ := c_inTwo v4 (L.cg (g2 26 (by decide)) (g2 27 (by decide))) v3 hn (M := M + 60) (by omega) (hr' ▸ g64) hb n4 n6 n44 I2.2 h3 hA2
        rw [w1, zbE]
        refine fin v A3 (s2.tr (sU.ofT w3)) w4 ?_ _ rfl
        unfold cON
        rw [if_neg (show ¬ 3 = 1 by decide), if_neg (show ¬ 3 = 2 by decide)]
        exact w2.imp (fun q => ⟨q.1, c6, q.2⟩) (fun q => ⟨q.1, fun z => q.2 z.2⟩)
end SJ
