/-! soonest: the class's search in two. -/
section SI
variable {W : zLw} {nj nh nt tb M : Nat} {hole : Int32} {A : zS} {T jT r : Nat → Int32}
def sT (A A' : zS) : Prop := A'.2 = A.2 ∧ ∀ b, b ≠ 15 → b ≠ 16 → b ≠ 28 → b ≠ 29 → b ≠ 30 → b ≠ 34 → A'.1 b = A.1 b
theorem sT.rfl' (A : zS) : sT A A := ⟨rfl, fun _ _ _ _ _ _ _ => rfl⟩
theorem sT.tr {A B C : zS} (h1 : sT A B) (h2 : sT B C) : sT A C := ⟨h2.1.trans h1.1, fun b x y z u v w => (h2.2 b x y z u v w).trans (h1.2 b x y z u v w)⟩
theorem sT.ofG {A B : zS} (h : sG A B) : sT A B := ⟨h.1, fun b x y z u v _ => h.2 b x y z u v⟩
theorem sT.ofo {A B : zS} (h : sameCo 33 A B) : sT A B := ⟨h.1, fun b x y _ _ _ z => h.2 b z x y⟩
theorem sT.s34 (A : zS) (x : Nat → Int32) : sT A (sR A 34 x) := ⟨rfl, fun b _ _ _ _ _ z => sR_ne _ _ z⟩
theorem Cx.up {A' : zS} (H : Cx W nj nh nt tb T A) (h2 : A'.2 = A.2) (h : ∀ b, b ≠ 15 → b ≠ 16 → b ≠ 32 → b ≠ 34 → A'.1 b = A.1 b) : Cx W nj nh nt tb T A' := by
  obtain ⟨h1, h2', h3, h4, h5, h6⟩ := H
  have e12 := h 12 (by decide) (by decide) (by decide) (by decide)
  exact ⟨h1.of (by rw [h2]) (by rw [h2]) (fun b hb => h b (by omega) (by omega) (by omega) (by omega)), by rw [e12]; exact h2', by rw [e12]; exact h3, by rw [e12]; exact h4, by rw [h 13 (by decide) (by decide) (by decide) (by decide)]; exact h5, h6.of (h 28 (by decide) (by decide) (by decide) (by decide)) (h 29 (by decide) (by decide) (by decide) (by decide)) (h 30 (by decide) (by decide) (by decide) (by decide))⟩
theorem Lst.cg {b n : Nat} {a : Nat → Nat} {A' : zS} (H : Lst nh nt hole b n a A) (h26 : A'.1 26 = A.1 26) (h27 : A'.1 27 = A.1 27) : Lst nh nt hole b n a A' := by
  unfold Lst
  rw [h26, h27]
  exact H
/-- an act on a scene apart -/
theorem c_actOn {c : Nat} (o : Nat) (ho : o = 31 ∨ o = 33) (C : Cx W nj nh nt tb T A) (E : E66 r (A.1 (o + 1))) (h64 : r 64 = Int32.ofNat tb) (hb : tb < 4) (n4 : nj ≤ 4) (n6 : nh ≤ 6) (n44 : nt ≤ 4) (hc : canN nh nt c) :
    ∃ A', f_X7_act o (Int32.ofNat c) A = some ((), A') ∧ sameCo o A A' ∧ E66 (actM loC W T (fun k => T (24 + k)) (fun k => T (54 + k)) nj nh tb c r) (A'.1 (o + 1)) ∧ Cx W nj nh nt tb T A' ∧ A'.1 (o + 1) 64 = Int32.ofNat tb := by
  obtain ⟨A', e1, e2, e3⟩ := c_act (nj := nj) (nh := nh) (nt := nt) (c := c) C.1 (o := o) (tb := tb) (by omega) (by omega) (by rw [← E 64 (by omega)]; exact h64) hb C.2.1 C.2.2.1 n4 n6 n44 hc
  rw [C.2.2.2.2.1] at e3
  have E' : E66 (actM loC W T (fun k => T (24 + k)) (fun k => T (54 + k)) nj nh tb c r) (A'.1 (o + 1)) := by
    rw [e3]
    exact E.act hb n4 n6 hc
  refine ⟨A', e1, e2, E', C.up e2.1 (fun b x y z u => e2.2 b (by omega) x y), ?_⟩
  rw [← E' 64 (by omega), act_64 hb n4 n6 (fun h hh => by unfold loC; omega) hc]
  exact h64
theorem c_take33 (C : Cx W nj nh nt tb T A) (E : E66 r (A.1 32)) : ∃ A', f_X7_take 33 31 A = some ((), A') ∧ sT A A' ∧ A'.1 32 = A.1 32 ∧ E66 r (A'.1 34) ∧ Cx W nj nh nt tb T A' := by
  refine ⟨sR A 34 (cpy (A.1 32) (A.1 34) 0 0 66), by rw [c_take, sC_eq], sT.s34 A _, sR_ne _ _ (by decide), ?_, C.up rfl (fun b _ _ _ x => sR_ne _ _ x)⟩
  rw [sR_at]
  exact fun k hk => by rw [cpy_0 hk]; exact E k hk
theorem c_two2 {n : Nat} {a : Nat → Nat} {ex : Int32 → zS → Option (Int32 × zS)} (hn : n ≤ 41) (h64 : r 64 = Int32.ofNat tb) (hb : tb < 4) (n4 : nj ≤ 4) (n6 : nh ≤ 6) (n44 : nt ≤ 4)
    (hA : ∀ c, acN nh nt hole c → RowOk jT nj M (actM loC W T (fun k => T (24 + k)) (fun k => T (54 + k)) nj nh tb c r)) : ∀ (m i f : Nat) (A : zS), i + m = n → m < f → Cx W nj nh nt tb T A → Lst nh nt hole 160 n a A → E66 r (A.1 32) →
    (∀ j, j < i → ¬ (a j < 100 ∧ ¬ actM loC W T (fun k => T (24 + k)) (fun k => T (54 + k)) nj nh tb (a j) r (7 * tb + 6) = 1 ∧ byTry W T (fun k => T (24 + k)) (fun k => T (54 + k)) nh nt tb (actM loC W T (fun k => T (24 + k)) (fun k => T (54 + k)) nj nh tb (a j) r))) →
    ∃ A', sT A A' ∧ Cx W nj nh nt tb T A' ∧ ((f_X8_opensInTwo_31_L2 ex f (Int32.ofNat i) A = some (1, A') ∧ ∃ c, acN nh nt hole c ∧ c < 100 ∧ ¬ actM loC W T (fun k => T (24 + k)) (fun k => T (54 + k)) nj nh tb c r (7 * tb + 6) = 1 ∧ byTry W T (fun k => T (24 + k)) (fun k => T (54 + k)) nh nt tb (actM loC W T (fun k => T (24 + k)) (fun k => T (54 + k)) nj nh tb c r)) ∨
      ((∃ y, f_X8_opensInTwo_31_L2 ex f (Int32.ofNat i) A = ex y A') ∧ ∀ c, acN nh nt hole c → ¬ (c < 100 ∧ ¬ actM loC W T (fun k => T (24 + k)) (fun k => T (54 + k)) nj nh tb c r (7 * tb + 6) = 1 ∧ byTry W T (fun k => T (24 + k)) (fun k => T (54 + k)) nh nt tb (actM loC W T (fun k => T (24 + k)) (fun k => T (54 + k)) nj nh tb c r)))) := by
  intro m
  induction m with
  | zero =>
    intro i f A hi hf C L E p
    obtain ⟨f, rfl⟩ : ∃ g, f = g + 1 := ⟨f - 1, by omega⟩
    have hi : i = n := by omega
    subst hi
    refine ⟨A, sT.rfl' A, C, Or.inr ⟨⟨Int32.ofNat i, ?_⟩, fun c hc => ?_⟩⟩
    · unfold f_X8_opensInTwo_31_L2
      rw [L.1, if_pos (Int32.le_refl _)]
    · obtain ⟨j, j1, j2⟩ := L.2.2.2.2 c hc hc.1
      rw [← j2]
      exact p j j1
  | succ m ih =>
    intro i f A hi hf C L E p
    obtain ⟨f, rfl⟩ : ∃ g, f = g + 1 := ⟨f - 1, by omega⟩
    have ha := (L.2.2.2.1 i (by omega)).1
    have ha1 := ha.1
    have e27 := L.2.1 i (by omega)
    unfold f_X8_opensInTwo_31_L2
    rw [L.1, if_neg (show ¬ Int32.ofNat n ≤ Int32.ofNat i from fun q => by have := (io_le (by omega) (by omega)).mp q; omega), io_in (by omega) (by omega), if_pos rfl, io_cl (by omega), e27]
    by_cases c100 : 100 ≤ a i
    · rw [if_pos (show (100 : Int32) ≤ Int32.ofNat (a i) from (io_le (a := 100) (by omega) (by omega)).mpr c100)]
      refine ⟨A, sT.rfl' A, C, Or.inr ⟨⟨Int32.ofNat i, rfl⟩, fun c hc => ?_⟩⟩
      obtain ⟨j, j1, j2⟩ := L.2.2.2.2 c hc hc.1
      by_cases ji : j < i
      · rw [← j2]
        exact p j ji
      · intro q
        have q1 := q.1
        by_cases je : j = i
        · subst je; omega
        · have := L.2.2.1 i j (by omega) j1
          omega
    · rw [if_neg (show ¬ (100 : Int32) ≤ Int32.ofNat (a i) from fun q => c100 ((io_le (a := 100) (by omega) (by omega)).mp q))]
      obtain ⟨A1, u1, u2, u3, u4, u5⟩ := c_take33 C E
      have e27' : A1.1 27 i = Int32.ofNat (a i) := by rw [u2.2 27 (by decide) (by decide) (by decide) (by decide) (by decide) (by decide)]; exact e27
      obtain ⟨A2, v1, v2, v3, v4, v5⟩ := c_actOn 33 (Or.inr rfl) u5 u4 h64 hb n4 n6 n44 ha.2.1
      have R := hA _ ha
      have s2 := u2.tr (sT.ofo v2)
      have e6 := v3 (7 * tb + 6) (by omega)
      have b6 := (R.2.1 tb hb).2.2.2.2.2.1
      rw [u1, zbE, if_pos rfl, e27', v1, zbE, c_lid (x := 6) (c := 6) v5 hb (by decide) rfl, zbE, zlE, ← e6]
      have go : ∀ A3, sT A A3 → Cx W nj nh nt tb T A3 → ¬ (¬ actM loC W T (fun k => T (24 + k)) (fun k => T (54 + k)) nj nh tb (a i) r (7 * tb + 6) = 1 ∧ byTry W T (fun k => T (24 + k)) (fun k => T (54 + k)) nh nt tb (actM loC W T (fun k => T (24 + k)) (fun k => T (54 + k)) nj nh tb (a i) r)) →
          ∃ A', sT A A' ∧ Cx W nj nh nt tb T A' ∧ (((zl (Int32.ofNat i + 1) fun (y17 : Int32) => f_X8_opensInTwo_31_L2 ex f y17 A3) = some (1, A') ∧ ∃ c, acN nh nt hole c ∧ c < 100 ∧ ¬ actM loC W T (fun k => T (24 + k)) (fun k => T (54 + k)) nj nh tb c r (7 * tb + 6) = 1 ∧ byTry W T (fun k => T (24 + k)) (fun k => T (54 + k)) nh nt tb (actM loC W T (fun k => T (24 + k)) (fun k => T (54 + k)) nj nh tb c r)) ∨
            ((∃ y, (zl (Int32.ofNat i + 1) fun (y17 : Int32) => f_X8_opensInTwo_31_L2 ex f y17 A3) = ex y A') ∧ ∀ c, acN nh nt hole c → ¬ (c < 100 ∧ ¬ actM loC W T (fun k => T (24 + k)) (fun k => T (54 + k)) nj nh tb c r (7 * tb + 6) = 1 ∧ byTry W T (fun k => T (24 + k)) (fun k => T (54 + k)) nh nt tb (actM loC W T (fun k => T (24 + k)) (fun k => T (54 + k)) nj nh tb c r)))) := by
        intro A3 s3 C3 h3
        have g : ∀ b, b = 26 ∨ b = 27 ∨ b = 32 → A3.1 b = A.1 b := fun b hb => s3.2 b (by omega) (by omega) (by omega) (by omega) (by omega) (by omega)
        obtain ⟨A', x1, x2, x3⟩ := ih (i + 1) f A3 (by omega) (by omega) C3 (L.cg (g 26 (by decide)) (g 27 (by decide))) (by rw [g 32 (by decide)]; exact E) (fun j hj => by
          by_cases e : j = i
          · rw [e]; exact fun q => h3 q.2
          · exact p j (by omega))
        rw [zlE, io_sc]
        exact ⟨A', s3.tr x1, x2, x3⟩
      rcases b6 with b6 | b6
      · rw [if_neg (nn b6)]
        obtain ⟨v, A3, w1, w2, w3, w4⟩ := c_byTry (o := 33) (Or.inr rfl) v4 v5 hb n6 n44 ((RB.of R hb).cg v3 hb)
        have s3 := s2.tr (sT.ofG w3)
        rw [w1, zbE]
        rw [← v3.by hb n6] at w2
        rcases w2 with ⟨rfl, w2⟩ | ⟨rfl, w2⟩
        · rw [if_neg (show ¬ (1 : Int32) = 0 by decide)]
          exact ⟨A3, s3, w4, Or.inl ⟨rfl, a i, ha, by omega, by rw [b6]; decide, w2⟩⟩
        · rw [if_pos rfl]
          exact go A3 s3 w4 (fun q => w2 q.2)
      · rw [if_pos (show ¬ actM loC W T (fun k => T (24 + k)) (fun k => T (54 + k)) nj nh tb (a i) r (7 * tb + 6) = 0 by rw [b6]; decide)]
        exact go A2 s2 v4 (fun q => q.1 b6)
theorem c_two75 (hM : M < 950000) (h64 : r 64 = Int32.ofNat tb) (hb : tb < 4) (n6 : nh ≤ 6) (n44 : nt ≤ 4) (R : RowOk jT nj M r) (h3 : ∀ h, h < nh → 0 ≤ (T (24 + (5 * h + 3))).toInt) : ∀ (m h f : Nat) (A : zS), h + m = nh → m < f → Cx W nj nh nt tb T A → E66 r (A.1 32) →
    ∃ v A', f_X8_opensInTwo_31_L75 (fun (q40 : Int32) (S39 : zS) => some (0, S39)) f (Int32.ofNat h) A = some (v, A') ∧ sT A A' ∧ Cx W nj nh nt tb T A' ∧ ((v = 1 ∧ ∃ h, h < nh ∧ byTry W T (fun k => T (24 + k)) (fun k => T (54 + k)) nh nt tb (tryM loC (fun k => T (24 + k)) tb h (gMax W T (fun k => T (24 + k)) (fun k => T (54 + k)) nt tb r h) r)) ∨
      (v = 0 ∧ ∀ k, h ≤ k → k < nh → ¬ byTry W T (fun k => T (24 + k)) (fun k => T (54 + k)) nh nt tb (tryM loC (fun k => T (24 + k)) tb k (gMax W T (fun k => T (24 + k)) (fun k => T (54 + k)) nt tb r k) r))) := by
  intro m
  induction m with
  | zero =>
    intro h f A hi hf C E
    obtain ⟨f, rfl⟩ : ∃ g, f = g + 1 := ⟨f - 1, by omega⟩
    have hi : h = nh := by omega
    subst hi
    refine ⟨0, A, ?_, sT.rfl' A, C, Or.inr ⟨rfl, fun k q1 q2 => by omega⟩⟩
    unfold f_X8_opensInTwo_31_L75
    rw [C.2.2.1, if_pos (Int32.le_refl _)]
  | succ m ih =>
    intro h f A hi hf C E
    obtain ⟨f, rfl⟩ : ∃ g, f = g + 1 := ⟨f - 1, by omega⟩
    obtain ⟨A1, u1, u2, u3, u4, u5⟩ := c_take33 C E
    have E1 : E66 r (A1.1 32) := by rw [u3]; exact E
    have B1 := (RB.of R hb).cg E1 hb
    obtain ⟨A2, g1, g2, g3⟩ := c_greatest (o := 31) (h := h) u5 (Or.inl rfl) (by rw [← E1 64 (by omega)]; exact h64) hb (by omega) n44 (B1.1 h (by omega)).1 (B1.1 h (by omega)).2 B1.2
    rw [← E1.gm hb (by omega)] at g1
    have e34 : A2.1 34 = A1.1 34 := g2.2 34 (by decide) (by decide) (by decide) (by decide) (by decide)
    have E2 : E66 r (A2.1 34) := by rw [e34]; exact u4
    have t3 := c_tryLid (S := A2) (o := 33) (tb := tb) (h := h) (by decide) (by rw [← E2 64 (by omega)]; exact h64) hb (by omega) (gMax W T (fun k => T (24 + k)) (fun k => T (54 + k)) nt tb r h)
    rw [g3.2.2.2.2.1] at t3
    obtain ⟨A3, hA3⟩ : ∃ A3, A3 = sR A2 (33 + 1) (tryM loC (fun k => T (24 + k)) tb h (gMax W T (fun k => T (24 + k)) (fun k => T (54 + k)) nt tb r h) (A2.1 (33 + 1))) := ⟨_, rfl⟩
    rw [← hA3] at t3
    have E3 : E66 (tryM loC (fun k => T (24 + k)) tb h (gMax W T (fun k => T (24 + k)) (fun k => T (54 + k)) nt tb r h) r) (A3.1 34) := by
      rw [hA3]
      exact fun k hk => by rw [show (sR A2 (33 + 1) _).1 34 = _ from sR_at _ _ _]; exact E2.tri hb (by omega) _ k hk
    have C3 : Cx W nj nh nt tb T A3 := g3.up (by rw [hA3]; rfl) (fun b _ _ _ x => by rw [hA3]; exact sR_ne _ _ x)
    have s3 : sT A A3 := (u2.tr (sT.ofG g2)).tr (by rw [hA3]; exact sT.s34 A2 _)
    have R3 := R.tri (lo := loC) (hT := fun k => T (24 + k)) (tb := tb) (h := h) (g := gMax W T (fun k => T (24 + k)) (fun k => T (54 + k)) nt tb r h) (by omega) hb (by omega) (by unfold loC; omega) (h3 h (by omega)) gMax_bd.1
    obtain ⟨v, A4, w1, w2, w3, w4⟩ := c_byTry (o := 33) (Or.inr rfl) C3 (by rw [← E3 64 (by omega), try_64 hb (by omega) (by unfold loC; omega)]; exact h64) hb n6 n44 ((RB.of R3 hb).cg E3 hb)
    rw [← E3.by hb n6] at w2
    have s4 := s3.tr (sT.ofG w3)
    unfold f_X8_opensInTwo_31_L75
    rw [C.2.2.1, if_neg (show ¬ Int32.ofNat nh ≤ Int32.ofNat h from fun q => by have := (io_le (by omega) (by omega)).mp q; omega), u1, zbE, g1, zbE, t3, zbE, w1, zbE]
    rcases w2 with ⟨rfl, w2⟩ | ⟨rfl, w2⟩
    · rw [if_neg (show ¬ (1 : Int32) = 0 by decide)]
      exact ⟨1, A4, rfl, s4, w4, Or.inl ⟨rfl, h, by omega, w2⟩⟩
    · rw [if_pos rfl, zlE, io_sc]
      obtain ⟨v, A5, x1, x2, x3, x4⟩ := ih (h + 1) f A4 (by omega) (by omega) w4 (by rw [s4.2 32 (by decide) (by decide) (by decide) (by decide) (by decide) (by decide)]; exact E)
      refine ⟨v, A5, x1, s4.tr x2, x3, x4.imp id (fun q => ⟨q.1, fun k k1 k2 => ?_⟩)⟩
      by_cases e : k = h
      · rw [e]; exact w2
      · exact q.2 k (by omega) k2
theorem c_inTwo {n : Nat} {a : Nat → Nat} (C : Cx W nj nh nt tb T A) (L : Lst nh nt hole 160 n a A) (E : E66 r (A.1 32)) (hn : n ≤ 41) (hM : M < 950000) (h64 : r 64 = Int32.ofNat tb) (hb : tb < 4) (n4 : nj ≤ 4) (n6 : nh ≤ 6) (n44 : nt ≤ 4) (R : RowOk jT nj M r) (h3 : ∀ h, h < nh → 0 ≤ (T (24 + (5 * h + 3))).toInt)
    (hA : ∀ c, acN nh nt hole c → RowOk jT nj (M + 60) (actM loC W T (fun k => T (24 + k)) (fun k => T (54 + k)) nj nh tb c r)) :
    ∃ v A', f_X8_opensInTwo_31 A = some (v, A') ∧ sT A A' ∧ Cx W nj nh nt tb T A' ∧ ((v = 1 ∧ inTwo (actM loC W T (fun k => T (24 + k)) (fun k => T (54 + k)) nj nh tb) (acN nh nt hole) W T (fun k => T (24 + k)) (fun k => T (54 + k)) nh nt tb r) ∨ (v = 0 ∧ ¬ inTwo (actM loC W T (fun k => T (24 + k)) (fun k => T (54 + k)) nj nh tb) (acN nh nt hole) W T (fun k => T (24 + k)) (fun k => T (54 + k)) nh nt tb r)) := by
  obtain ⟨A1, x1, x2, x3⟩ := c_two2 (ex := fun (q23 : Int32) (S22 : zS) => f_X8_opensInTwo_31_L75 (fun (q40 : Int32) (S39 : zS) => some (0, S39)) zN 0 S22) hn h64 hb n4 n6 n44 hA n 0 zN A (by omega) (by unfold zN; omega) C L E (fun j hj => by omega)
  unfold f_X8_opensInTwo_31
  rcases x3 with ⟨x3, c, y1, y2, y3, y4⟩ | ⟨⟨y, x3⟩, x4⟩
  · exact ⟨1, A1, x3, x1, x2, Or.inl ⟨rfl, Or.inl ⟨c, y1, y2, y3, y4⟩⟩⟩
  · obtain ⟨v, A2, z1, z2, z3, z4⟩ := c_two75 hM h64 hb n6 n44 R h3 nh 0 zN A1 (by omega) (by unfold zN; omega) x2 (by rw [x1.2 32 (by decide) (by decide) (by decide) (by decide) (by decide) (by decide)]; exact E)
    refine ⟨v, A2, x3.trans z1, x1.tr z2, z3, z4.imp (fun q => ⟨q.1, Or.inr q.2⟩) (fun q => ⟨q.1, ?_⟩)⟩
    rintro (⟨c, c1, c2⟩ | ⟨h, h1, h2⟩)
    · exact x4 c c1 c2
    · exact q.2 h (by omega) h1 h2
end SI
