/-! soonest: the class's greatest grips, kept. -/
section SG
variable {W : zLw} {nj nh nt tb : Nat} {hole : Int32} {A : zS} {T : Nat → Int32}
theorem c_hand0 {o h : Nat} (hh : h < 6) : f_X7_handCell o (Int32.ofNat h) 0 A = some (A.1 (o + 1) (28 + 2 * h), A) := by
  unfold f_X7_handCell
  rw [ix_c2_0, io_in (by omega) (by omega), if_pos rfl, io_cl (by omega)]
theorem c_hand1 {o h : Nat} (hh : h < 6) : f_X7_handCell o (Int32.ofNat h) 1 A = some (A.1 (o + 1) (28 + 2 * h + 1), A) := by
  unfold f_X7_handCell
  rw [ix_c2_1, io_in (by omega) (by omega), if_pos rfl, io_cl (by omega)]
def gVal (W : zLw) (T : Nat → Int32) (nt tb h : Nat) (p w c : Int32) : Int32 := gTop (fun t => clampC (W p (T (24 + (5 * h + 1))) w (T (6 * tb + 4)) c (addsV (fun k => T (54 + k)) t))) nt
theorem gVal_eq {r : Nat → Int32} {h : Nat} : gVal W T nt tb h (r (28 + 2 * h)) (r (28 + 2 * h + 1)) (r (7 * tb + 2)) = gMax W T (fun k => T (24 + k)) (fun k => T (54 + k)) nt tb r h := Eq.trans rfl rfl
def keyV (p w c : Int32) : Int32 := (((p * 10) + w) * 10) + c
theorem keyV_ti {p w c : Int32} (hp : bd p 0 99) (hw : bd w 0 9) (hc : bd c 0 9) : (keyV p w c).toInt = (p.toInt * 10 + w.toInt) * 10 + c.toInt := by
  unfold bd at hp hw hc
  have e : (10 : Int32).toInt = 10 := by decide
  have e1 : (p * 10).toInt = p.toInt * 10 := by rw [ti_mul (by rw [e]; omega), e]
  have e2 : (p * 10 + w).toInt = p.toInt * 10 + w.toInt := by rw [ti_add (by omega), e1]
  have e3 : ((p * 10 + w) * 10).toInt = (p.toInt * 10 + w.toInt) * 10 := by rw [ti_mul (by rw [e]; omega), e2, e]
  unfold keyV
  rw [ti_add (by omega), e3]
theorem keyV_inj {p w c p' w' c' : Int32} (hp : bd p 0 99) (hw : bd w 0 9) (hc : bd c 0 9) (hp' : bd p' 0 99) (hw' : bd w' 0 9) (hc' : bd c' 0 9) (e : keyV p w c = keyV p' w' c') : p = p' ∧ w = w' ∧ c = c' := by
  have e := congrArg Int32.toInt e
  rw [keyV_ti hp hw hc, keyV_ti hp' hw' hc'] at e
  unfold bd at *
  exact ⟨ti_inj (by omega), ti_inj (by omega), ti_inj (by omega)⟩
/-- the grips told before -/
def Cch (W : zLw) (T : Nat → Int32) (nt tb : Nat) (A : zS) : Prop := ∀ h, h < 6 → ∃ n, n ≤ 24 ∧ A.1 30 h = Int32.ofNat n ∧ ∀ i, i < n → ∃ p w c, bd p 0 99 ∧ bd w 0 9 ∧ bd c 0 9 ∧ A.1 28 (24 * h + i) = keyV p w c ∧ A.1 29 (24 * h + i) = gVal W T nt tb h p w c
def Cx (W : zLw) (nj nh nt tb : Nat) (T : Nat → Int32) (A : zS) : Prop := LawC A W ∧ A.1 12 0 = Int32.ofNat nj ∧ A.1 12 1 = Int32.ofNat nh ∧ A.1 12 2 = Int32.ofNat nt ∧ A.1 13 = T ∧ Cch W T nt tb A
def sG (A A' : zS) : Prop := A'.2 = A.2 ∧ ∀ b, b ≠ 15 → b ≠ 16 → b ≠ 28 → b ≠ 29 → b ≠ 30 → A'.1 b = A.1 b
theorem sG.rfl' (A : zS) : sG A A := ⟨rfl, fun _ _ _ _ _ _ => rfl⟩
theorem sG.tr {A B C : zS} (h1 : sG A B) (h2 : sG B C) : sG A C := ⟨h2.1.trans h1.1, fun b x y z u v => (h2.2 b x y z u v).trans (h1.2 b x y z u v)⟩
theorem sG.of {A B : zS} (h : sameC A B) : sG A B := ⟨h.1, fun b x y _ _ _ => h.2 b x y⟩
theorem Cx.sG' {A' : zS} (H : Cx W nj nh nt tb T A) (h : sG A A') (hc : Cch W T nt tb A') : Cx W nj nh nt tb T A' := by
  obtain ⟨h1, h2, h3, h4, h5, -⟩ := H
  have e12 := h.2 12 (by decide) (by decide) (by decide) (by decide) (by decide)
  exact ⟨h1.of (by rw [h.1]) (by rw [h.1]) (fun b hb => h.2 b (by omega) (by omega) (by omega) (by omega) (by omega)), by rw [e12]; exact h2, by rw [e12]; exact h3, by rw [e12]; exact h4, by rw [h.2 13 (by decide) (by decide) (by decide) (by decide) (by decide)]; exact h5, hc⟩
theorem Cch.of {A' : zS} (H : Cch W T nt tb A) (h28 : A'.1 28 = A.1 28) (h29 : A'.1 29 = A.1 29) (h30 : A'.1 30 = A.1 30) : Cch W T nt tb A' := by
  unfold Cch
  rw [h28, h29, h30]
  exact H
theorem Cx.same {A' : zS} (H : Cx W nj nh nt tb T A) (h : sameC A A') : Cx W nj nh nt tb T A' := H.sG' (sG.of h) (H.2.2.2.2.2.of (h.2 28 (by decide) (by decide)) (h.2 29 (by decide) (by decide)) (h.2 30 (by decide) (by decide)))
theorem c_gg47 {o h n : Nat} {ex : Int32 → zS → Option (Int32 × zS)} {i2 p w c : Int32} (hh : h < 6) (hn : n ≤ 24) (hp : bd p 0 99) (hw : bd w 0 9) (hc : bd c 0 9)
    (H : ∀ i, i < n → ∃ p w c, bd p 0 99 ∧ bd w 0 9 ∧ bd c 0 9 ∧ A.1 28 (24 * h + i) = keyV p w c ∧ A.1 29 (24 * h + i) = gVal W T nt tb h p w c) : ∀ (m i f : Nat), i + m = n → m < f →
    f_X8_greatestGrip_L47 o ex i2 (keyV p w c) (Int32.ofNat (24 * h)) (Int32.ofNat (24 * h + n)) f (Int32.ofNat (24 * h + i)) A = some (gVal W T nt tb h p w c, A) ∨ f_X8_greatestGrip_L47 o ex i2 (keyV p w c) (Int32.ofNat (24 * h)) (Int32.ofNat (24 * h + n)) f (Int32.ofNat (24 * h + i)) A = ex (Int32.ofNat (24 * h + n)) A := by
  intro m
  induction m with
  | zero =>
    intro i f hi hf
    obtain ⟨f, rfl⟩ : ∃ g, f = g + 1 := ⟨f - 1, by omega⟩
    have hi : i = n := by omega
    subst hi
    refine Or.inr ?_
    unfold f_X8_greatestGrip_L47
    exact if_pos (Int32.le_refl _)
  | succ m ih =>
    intro i f hi hf
    obtain ⟨f, rfl⟩ : ∃ g, f = g + 1 := ⟨f - 1, by omega⟩
    unfold f_X8_greatestGrip_L47
    rw [if_neg (show ¬ Int32.ofNat (24 * h + n) ≤ Int32.ofNat (24 * h + i) from fun q => by have := (io_le (by omega) (by omega)).mp q; omega), if_neg (show ¬ (144 : Int32) ≤ Int32.ofNat (24 * h + i) from fun q => by have := (io_le (a := 144) (by omega) (by omega)).mp q; omega), io_in (by omega) (by omega), if_pos rfl, if_pos rfl, io_cl (by omega)]
    obtain ⟨p', w', c', y1, y2, y3, y4, y5⟩ := H i (by omega)
    by_cases e : A.1 28 (24 * h + i) = keyV p w c
    · rw [if_neg (nn e)]
      obtain ⟨rfl, rfl, rfl⟩ := keyV_inj y1 y2 y3 hp hw hc (y4.symm.trans e)
      exact Or.inl (by rw [y5])
    · rw [if_pos e, zlE, io_sc]
      exact ih (i + 1) f (by omega) (by omega)
theorem c_gg104 {o h : Nat} {ex : Int32 → Int32 → zS → Option (Int32 × zS)} {i3 i4 i5 : Int32} (ho : o = 31 ∨ o = 33) (hb : tb < 4) (hh : h < 6) (n44 : nt ≤ 4) : ∀ (m t f : Nat) (A : zS), t + m = nt → m < f → Cx W nj nh nt tb T A → A.1 (o + 1) 64 = Int32.ofNat tb →
    ∃ y A', f_X8_greatestGrip_L104 o ex (Int32.ofNat h) i3 i4 i5 f (gTop (fun t => gripM W T (fun k => T (24 + k)) (fun k => T (54 + k)) (A.1 (o + 1)) h t tb) t) (Int32.ofNat t) A = ex (gMax W T (fun k => T (24 + k)) (fun k => T (54 + k)) nt tb (A.1 (o + 1)) h) y A' ∧ sameC A A' := by
  intro m
  induction m with
  | zero =>
    intro t f A hi hf C h64
    obtain ⟨f, rfl⟩ : ∃ g, f = g + 1 := ⟨f - 1, by omega⟩
    have hi : t = nt := by omega
    subst hi
    refine ⟨Int32.ofNat t, A, ?_, sameC.rfl' A⟩
    unfold f_X8_greatestGrip_L104
    rw [C.2.2.2.1, if_pos (Int32.le_refl _)]
    rfl
  | succ m ih =>
    intro t f A hi hf C h64
    obtain ⟨f, rfl⟩ : ∃ g, f = g + 1 := ⟨f - 1, by omega⟩
    obtain ⟨A1, g1, g2⟩ := c_gripOn C.1 (o := o) (h := h) (j := tb) (t := some t) (by omega) (by omega) hh hb (fun k q => by injection q with q; omega)
    have eo : A1.1 (o + 1) = A.1 (o + 1) := g2.2 _ (by omega) (by omega)
    obtain ⟨y, A2, x1, x2⟩ := ih (t + 1) f A1 (by omega) (by omega) (C.same g2) (by rw [eo]; exact h64)
    rw [eo] at x1
    refine ⟨y, A2, ?_, g2.tr x2⟩
    rw [C.2.2.2.2.1] at g1
    unfold f_X8_greatestGrip_L104
    rw [C.2.2.2.1, if_neg (show ¬ Int32.ofNat nt ≤ Int32.ofNat t from fun q => by have := (io_le (by omega) (by omega)).mp q; omega), c_onTable h64, zbE]
    rw [show f_X7_gripOn o (Int32.ofNat h) (Int32.ofNat t) (Int32.ofNat tb) A = _ from g1, zbE, zlE, zlE, io_sc]
    exact x1
theorem c_greatest {o h : Nat} (C : Cx W nj nh nt tb T A) (ho : o = 31 ∨ o = 33) (h64 : A.1 (o + 1) 64 = Int32.ofNat tb) (hb : tb < 4) (hh : h < 6) (n44 : nt ≤ 4) (hp : bd (A.1 (o + 1) (28 + 2 * h)) 0 99) (hw : bd (A.1 (o + 1) (28 + 2 * h + 1)) 0 9) (hc : bd (A.1 (o + 1) (7 * tb + 2)) 0 9) :
    ∃ A', f_X8_greatestGrip o (Int32.ofNat h) A = some (gMax W T (fun k => T (24 + k)) (fun k => T (54 + k)) nt tb (A.1 (o + 1)) h, A') ∧ sG A A' ∧ Cx W nj nh nt tb T A' := by
  obtain ⟨n, n1, n2, n3⟩ := C.2.2.2.2.2 h hh
  unfold f_X8_greatestGrip
  rw [c_hand0 hh, zbE, c_hand1 hh, zbE, c_lid (x := 2) (c := 2) h64 hb (by decide) rfl, zbE, zlE, zlE, io_in (by omega) (by omega), if_pos rfl, io_cl (by omega), zlE, n2]
  have e24 : Int32.ofNat h * 24 = Int32.ofNat (24 * h) := by rw [Nat.mul_comm, Int32.ofNat_mul]; rfl
  rw [e24, ix_aa]
  rw [show (((A.1 (o + 1) (28 + 2 * h) * 10) + A.1 (o + 1) (28 + 2 * h + 1)) * 10) + A.1 (o + 1) (7 * tb + 2) = keyV (A.1 (o + 1) (28 + 2 * h)) (A.1 (o + 1) (28 + 2 * h + 1)) (A.1 (o + 1) (7 * tb + 2)) from rfl]
  generalize hX : (fun (q21 : Int32) (S20 : zS) => zb (f_X7_onTable o S20) fun r23 S22 => _) = X
  rcases c_gg47 (o := o) (ex := X) (i2 := Int32.ofNat h) hh n1 hp hw hc n3 n 0 zN (by omega) (by unfold zN; omega) with e | e
  · rw [show 24 * h + 0 = 24 * h from rfl] at e
    rw [e]
    exact ⟨A, rfl, sG.rfl' A, C⟩
  · rw [show 24 * h + 0 = 24 * h from rfl] at e
    rw [e, ← hX]
    dsimp only
    rw [c_onTable h64, zbE]
    obtain ⟨A1, g1, g2⟩ := c_gripOn C.1 (o := o) (h := h) (j := tb) (t := none) (by omega) (by omega) hh hb (fun k q => by cases q)
    have eo : A1.1 (o + 1) = A.1 (o + 1) := g2.2 _ (by omega) (by omega)
    rw [C.2.2.2.2.1] at g1
    rw [show f_X7_gripOn o (Int32.ofNat h) (-1) (Int32.ofNat tb) A = _ from g1, zbE]
    generalize hY : (fun (q38 : Int32) (q39 : Int32) (S37 : zS) => ite (true = true) _ none) = Y
    obtain ⟨y, A2, x1, x2⟩ := c_gg104 (ex := Y) (i3 := keyV (A.1 (o + 1) (28 + 2 * h)) (A.1 (o + 1) (28 + 2 * h + 1)) (A.1 (o + 1) (7 * tb + 2))) (i4 := Int32.ofNat (24 * h)) (i5 := Int32.ofNat (24 * h + n)) ho hb hh n44 nt 0 zN A1 (by omega) (by unfold zN; omega) (C.same g2) (by rw [eo]; exact h64)
    rw [eo] at x1
    rw [show f_X8_greatestGrip_L104 o Y (Int32.ofNat h) (keyV (A.1 (o + 1) (28 + 2 * h)) (A.1 (o + 1) (28 + 2 * h + 1)) (A.1 (o + 1) (7 * tb + 2))) (Int32.ofNat (24 * h)) (Int32.ofNat (24 * h + n)) zN (gripM W T (fun k => T (24 + k)) (fun k => T (54 + k)) (A.1 (o + 1)) h none tb) 0 A1 = _ from x1, ← hY]
    dsimp only
    have s2 := g2.tr x2
    have C2 := C.same s2
    have e30 : A2.1 30 h = Int32.ofNat n := by rw [s2.2 30 (by decide) (by decide)]; exact n2
    rw [if_pos rfl, e30]
    by_cases c24 : n = 24
    · rw [if_pos (show (24 : Int32) ≤ Int32.ofNat n by rw [c24]; exact Int32.le_refl _)]
      exact ⟨A2, rfl, sG.of s2, C2⟩
    · rw [if_neg (show ¬ (24 : Int32) ≤ Int32.ofNat n from fun q => by have := (io_le (a := 24) (by omega) (by omega)).mp q; omega), io_in (by omega) (by omega), if_pos rfl, io_cl (by omega), zlE, if_pos rfl, zlE, if_pos rfl, if_pos rfl, zlE]
      obtain ⟨G, hG⟩ : ∃ G, G = gMax W T (fun k => T (24 + k)) (fun k => T (54 + k)) nt tb (A.1 (o + 1)) h := ⟨_, rfl⟩
      obtain ⟨ky, hK⟩ : ∃ ky, ky = keyV (A.1 (o + 1) (28 + 2 * h)) (A.1 (o + 1) (28 + 2 * h + 1)) (A.1 (o + 1) (7 * tb + 2)) := ⟨_, rfl⟩
      rw [← hG, ← hK]
      have e3 : (sV (sV A2 28 (24 * h + n) ky) 29 (24 * h + n) G).1 30 h = Int32.ofNat n := by
        rw [sV_g, if_neg (fun q => absurd q.1 (by decide)), sV_g, if_neg (fun q => absurd q.1 (by decide))]
        exact e30
      rw [e3, io_sc]
      obtain ⟨A3, hA3⟩ : ∃ A3, A3 = sV (sV (sV A2 28 (24 * h + n) ky) 29 (24 * h + n) G) 30 h (Int32.ofNat (n + 1)) := ⟨_, rfl⟩
      rw [← hA3]
      have s3 : sG A2 A3 := by
        rw [hA3]
        exact ⟨rfl, fun b _ _ x y z => by rw [sV_eq, sR_ne _ _ z, sV_eq, sR_ne _ _ y, sV_eq, sR_ne _ _ x]⟩
      refine ⟨A3, rfl, (sG.of s2).tr s3, C2.sG' s3 (fun h' hh' => ?_)⟩
      have f28 : ∀ k, A3.1 28 k = if k = 24 * h + n then ky else A2.1 28 k := fun k => by
        rw [hA3, sV_g, if_neg (fun q => absurd q.1 (by decide)), sV_g, if_neg (fun q => absurd q.1 (by decide)), sV_g]
        by_cases c : k = 24 * h + n
        · rw [if_pos ⟨rfl, c⟩, if_pos c]
        · rw [if_neg (fun q => c q.2), if_neg c]
      have f29 : ∀ k, A3.1 29 k = if k = 24 * h + n then G else A2.1 29 k := fun k => by
        rw [hA3, sV_g, if_neg (fun q => absurd q.1 (by decide)), sV_g]
        by_cases c : k = 24 * h + n
        · rw [if_pos ⟨rfl, c⟩, if_pos c]
        · rw [if_neg (fun q => c q.2), if_neg c, sV_g, if_neg (fun q => absurd q.1 (by decide))]
      have f30 : ∀ k, A3.1 30 k = if k = h then Int32.ofNat (n + 1) else A2.1 30 k := fun k => by
        rw [hA3, sV_g]
        by_cases c : k = h
        · rw [if_pos ⟨rfl, c⟩, if_pos c]
        · rw [if_neg (fun q => c q.2), if_neg c, sV_g, if_neg (fun q => absurd q.1 (by decide)), sV_g, if_neg (fun q => absurd q.1 (by decide))]
      obtain ⟨m, m1, m2, m3⟩ := C2.2.2.2.2.2 h' hh'
      by_cases c : h' = h
      · subst c
        have em : m = n := (io_eq (by omega) (by omega)).mp (m2.symm.trans e30)
        subst em
        refine ⟨m + 1, by omega, by rw [f30, if_pos rfl], fun i hi => ?_⟩
        by_cases ci : i = m
        · subst ci
          refine ⟨_, _, _, hp, hw, hc, by rw [f28, if_pos rfl, hK], ?_⟩
          rw [f29, if_pos rfl, hG, gVal_eq]
        · obtain ⟨p', w', c', u1, u2, u3, u4, u5⟩ := m3 i (by omega)
          exact ⟨p', w', c', u1, u2, u3, by rw [f28, if_neg (by omega)]; exact u4, by rw [f29, if_neg (by omega)]; exact u5⟩
      · refine ⟨m, m1, by rw [f30, if_neg c]; exact m2, fun i hi => ?_⟩
        obtain ⟨p', w', c', u1, u2, u3, u4, u5⟩ := m3 i hi
        exact ⟨p', w', c', u1, u2, u3, by rw [f28, if_neg (by omega)]; exact u4, by rw [f29, if_neg (by omega)]; exact u5⟩
end SG
