/-! soonest: the reference. -/
section SC
variable {W : zLw} {nj nh nt tb M : Nat} {hole : Int32} {A B : zS} {hub : Int32 → Int32 → Int32 → zS → Option (Int32 × zS)}
/-- what the reference's search changes, at a depth -/
def sSo (d : Nat) (B B' : zS) : Prop := (∀ b, b ≠ 41 → b ≠ 45 → b ≠ 55 → b ≠ 59 → B'.1 b = B.1 b) ∧ (∀ k, (k < 8 ∨ 14 < k) → k ≠ 17 → B'.1 41 k = B.1 41 k) ∧ B'.2.2 = B.2.2 ∧ (∀ b k, ¬ (b = 41 ∧ k = 5) → B'.2.1 b k = B.2.1 b k) ∧ ∀ k, k < 66 * (d + 1) → B'.1 59 k = B.1 59 k
theorem sSo.rfl' (d : Nat) (B : zS) : sSo d B B := ⟨fun _ _ _ _ _ => rfl, fun _ _ _ => rfl, rfl, fun _ _ _ => rfl, fun _ _ => rfl⟩
theorem sSo.tr {d : Nat} {B C D : zS} (h1 : sSo d B C) (h2 : sSo d C D) : sSo d B D := ⟨fun b x1 x2 x3 x4 => (h2.1 b x1 x2 x3 x4).trans (h1.1 b x1 x2 x3 x4), fun k x1 x2 => (h2.2.1 k x1 x2).trans (h1.2.1 k x1 x2), h2.2.2.1.trans h1.2.2.1, fun b k x => (h2.2.2.2.1 b k x).trans (h1.2.2.2.1 b k x), fun k x => (h2.2.2.2.2 k x).trans (h1.2.2.2.2 k x)⟩
theorem sSo.dn {d : Nat} {B C : zS} (h : sSo (d + 1) B C) : sSo d B C := ⟨h.1, h.2.1, h.2.2.1, h.2.2.2.1, fun k x => h.2.2.2.2 k (by omega)⟩
theorem sSo.ofw {d : Nat} {B C : zS} (h : sameRw 55 B C) : sSo d B C := ⟨fun b x1 x2 x3 _ => h.1 b x1 x2 x3, h.2.1, h.2.2.1, h.2.2.2, fun k _ => by rw [h.1 59 (by decide) (by decide) (by decide)]⟩
theorem sSo.s55 {d : Nat} {B : zS} (r : Nat → Int32) : sSo d B (sR B 55 r) := sSo.ofw (sameRw.sR (sameR.rfl' B) (by decide) r)
theorem sSo.s59 {d : Nat} {B : zS} {r : Nat → Int32} (h : ∀ k, k < 66 * (d + 1) → r k = B.1 59 k) : sSo d B (sR B 59 r) := ⟨fun b _ _ _ x4 => sR_ne _ _ x4, fun k _ _ => by rw [sR_ne _ _ (by decide)], rfl, fun _ _ _ => rfl, fun k x => by rw [sR_at]; exact h k x⟩
/-- what the search stands on -/
def Sk (W : zLw) (nj nh nt M d : Nat) (r : Nat → Int32) (A B : zS) : Prop := ITold nj nh nt A B ∧ LawR B W ∧ IRow (B.1 46) nj M r (fun k => B.1 59 (66 * d + k))
theorem sSo.told {d : Nat} {B' : zS} (h : sSo d B B') (T : ITold nj nh nt A B) : ITold nj nh nt A B' := T.of rfl rfl rfl (h.2.1 24 (by omega) (by decide)) (h.2.1 25 (by omega) (by decide)) (h.2.1 26 (by omega) (by decide)) (h.1 46 (by decide) (by decide) (by decide) (by decide)) (h.1 48 (by decide) (by decide) (by decide) (by decide)) (h.1 50 (by decide) (by decide) (by decide) (by decide))
theorem sSo.law {d : Nat} {B' : zS} (h : sSo d B B') (H : LawR B W) : LawR B' W := H.of (h.2.1 35 (by omega) (by decide)) (h.1 43 (by decide) (by decide) (by decide) (by decide)) (h.1 44 (by decide) (by decide) (by decide) (by decide))
theorem Sk.of {d : Nat} {r : Nat → Int32} {B' : zS} (H : Sk W nj nh nt M d r A B) (h : sSo d B B') : Sk W nj nh nt M d r A B' := by
  refine ⟨h.told H.1, h.law H.2.1, ?_⟩
  rw [h.1 46 (by decide) (by decide) (by decide) (by decide)]
  exact H.2.2.cg (fun _ _ => rfl) (fun k hk => h.2.2.2.2 _ (by omega))
theorem r_isAct (T : ITold nj nh nt A B) {c : Nat} (hc : c < 160) : (acN nh nt hole c ∧ f_X12_isAct (Int32.ofNat c) hole B = some (1, B)) ∨ (¬ acN nh nt hole c ∧ f_X12_isAct (Int32.ofNat c) hole B = some (0, B)) := by
  obtain ⟨t1, t2, t3, t4, t5, t6, t7, t8, t9, t10, t11⟩ := T
  have n6 := t11.2.1
  have n44 := t11.2.2.1
  have lt : ∀ n : Nat, n < 1000 → (Int32.ofNat c < Int32.ofNat n ↔ c < n) := fun n hn => io_lt (by omega) (by omega)
  have le : ∀ n : Nat, n < 1000 → (Int32.ofNat c ≤ Int32.ofNat n ↔ c ≤ n) := fun n hn => io_le (by omega) (by omega)
  have l5 : Int32.ofNat c < 5 ↔ c < 5 := lt 5 (by omega)
  have l16 : Int32.ofNat c < 16 ↔ c < 16 := lt 16 (by omega)
  have l9 : Int32.ofNat c ≤ 9 ↔ c ≤ 9 := le 9 (by omega)
  have l99 : Int32.ofNat c ≤ 99 ↔ c ≤ 99 := le 99 (by omega)
  have e2 : Int32.ofNat c = 2 ↔ c = 2 := io_eq (b := 2) (by omega) (by omega)
  unfold f_X12_isAct
  simp only [zlE, l5, l16, l9, l99, e2]
  by_cases hs : c < 5 ∨ (10 ≤ c ∧ c < 16) ∨ (100 ≤ c ∧ c < 200)
  · have fin : ∀ X : Option (Int32 × zS), X = (zb (f_X12_isStep (Int32.ofNat c) B) fun r5 S4 => if r5 = 0 then some (0, S4) else if ¬ hole = 0 then some (1, S4) else if c = 2 then some (0, S4) else some (1, S4)) → (acN nh nt hole c ∧ X = some (1, B)) ∨ (¬ acN nh nt hole c ∧ X = some (0, B)) := by
      intro X hX
      rcases can2 (o := 0) (A := A) (B := B) (c := c) (by omega) t2 t3 t5 t6 n6 n44 with ⟨k1, -, k2⟩ | ⟨k1, -, k2⟩
      · rw [k2, zbE, if_neg (by decide)] at hX
        by_cases c0 : hole = 0
        · rw [if_neg (nn c0)] at hX
          by_cases c2 : c = 2
          · rw [if_pos c2] at hX
            exact Or.inr ⟨fun q => q.2.2 c2 c0, hX⟩
          · rw [if_neg c2] at hX
            exact Or.inl ⟨⟨hc, k1, fun q => absurd q c2⟩, hX⟩
        · rw [if_pos c0] at hX
          exact Or.inl ⟨⟨hc, k1, fun _ => c0⟩, hX⟩
      · rw [k2, zbE, if_pos rfl] at hX
        exact Or.inr ⟨fun q => k1 q.2.1, hX⟩
    by_cases c5 : c < 5
    · rw [if_pos c5]
      exact fin _ rfl
    · rw [if_neg c5]
      by_cases c9 : c ≤ 9
      · omega
      · rw [if_neg c9]
        by_cases c16 : c < 16
        · rw [if_pos c16]
          exact fin _ rfl
        · rw [if_neg c16, if_neg (show ¬ c ≤ 99 by omega)]
          exact fin _ rfl
  · refine Or.inr ⟨fun q => hs ?_, ?_⟩
    · have := q.2.1
      unfold canN at this
      omega
    · rw [if_neg (show ¬ c < 5 by omega)]
      by_cases c9 : c ≤ 9
      · rw [if_pos c9, if_pos (show c ≤ 99 by omega)]
      · rw [if_neg c9, if_neg (show ¬ c < 16 by omega), if_pos (show c ≤ 99 by omega)]
theorem r_cp15 {ex : Int32 → zS → Option (Int32 × zS)} {i1 i2 i4 : Int32} {d : Nat} (hd : d < 4) : ∀ (m i f : Nat) (B : zS), i + m = 66 → m < f → ∃ row, f_X12_opensFirst_o_L15 hub ex i1 i2 (Int32.ofNat d) i4 f (Int32.ofNat i) B = ex 66 (sR B 55 row) ∧ (∀ k, i ≤ k → k < 66 → row k = B.1 59 (66 * d + k)) ∧ ∀ k, k < i → row k = B.1 55 k := by
  intro m
  induction m with
  | zero =>
    intro i f B hi hf
    obtain ⟨f, rfl⟩ : ∃ g, f = g + 1 := ⟨f - 1, by omega⟩
    have hi : i = 66 := by omega
    subst hi
    refine ⟨B.1 55, ?_, fun k _ _ => by omega, fun k _ => rfl⟩
    unfold f_X12_opensFirst_o_L15
    rw [sR_self]
    exact if_pos (Int32.le_refl _)
  | succ m ih =>
    intro i f B hi hf
    obtain ⟨f, rfl⟩ : ∃ g, f = g + 1 := ⟨f - 1, by omega⟩
    have h66 : ¬ (66 : Int32) ≤ Int32.ofNat i := fun q => by have := (io_le (a := 66) (b := i) (by omega) (by omega)).mp q; omega
    obtain ⟨row, o1, o2, o3⟩ := ih (i + 1) f (sV B 55 i (B.1 59 (66 * d + i))) (by omega) (by omega)
    refine ⟨row, ?_, fun k k1 k2 => ?_, fun k hk => ?_⟩
    · unfold f_X12_opensFirst_o_L15
      rw [if_neg h66, ix_m66, ix_aa, io_in (by omega) (by omega), if_pos rfl, io_in (by omega) (by omega), if_pos rfl, io_cl (by omega), io_cl (by omega), zlE, zlE, io_sc, o1, sV_eq, sR_sR]
    · by_cases c : k = i
      · subst c
        rw [o3 _ (by omega), sV_g, if_pos ⟨rfl, rfl⟩]
      · rw [o2 k (by omega) k2, sV_g, if_neg (fun q => absurd q.1 (by decide))]
    · rw [o3 k (by omega), sV_g, if_neg (fun q => by omega)]
theorem r_cp107 {ex : Int32 → zS → Option (Int32 × zS)} {i1 i2 i4 i5 : Int32} {d : Nat} (hd : d < 3) : ∀ (m i f : Nat) (B : zS), i + m = 66 → m < f → ∃ row, f_X12_opensFirst_o_L107 hub ex i1 i2 (Int32.ofNat d) i4 i5 f (Int32.ofNat i) B = ex 66 (sR B 59 row) ∧ (∀ k, i ≤ k → k < 66 → row (66 * (d + 1) + k) = B.1 55 k) ∧ ∀ k, k < 66 * (d + 1) + i → row k = B.1 59 k := by
  intro m
  induction m with
  | zero =>
    intro i f B hi hf
    obtain ⟨f, rfl⟩ : ∃ g, f = g + 1 := ⟨f - 1, by omega⟩
    have hi : i = 66 := by omega
    subst hi
    refine ⟨B.1 59, ?_, fun k _ _ => by omega, fun k _ => rfl⟩
    unfold f_X12_opensFirst_o_L107
    rw [sR_self]
    exact if_pos (Int32.le_refl _)
  | succ m ih =>
    intro i f B hi hf
    obtain ⟨f, rfl⟩ : ∃ g, f = g + 1 := ⟨f - 1, by omega⟩
    have h66 : ¬ (66 : Int32) ≤ Int32.ofNat i := fun q => by have := (io_le (a := 66) (b := i) (by omega) (by omega)).mp q; omega
    obtain ⟨row, o1, o2, o3⟩ := ih (i + 1) f (sV B 59 (66 * (d + 1) + i) (B.1 55 i)) (by omega) (by omega)
    refine ⟨row, ?_, fun k k1 k2 => ?_, fun k hk => ?_⟩
    · unfold f_X12_opensFirst_o_L107
      rw [if_neg h66, io_sc, ix_m66, ix_aa, io_in (by omega) (by omega), if_pos rfl, io_in (by omega) (by omega), if_pos rfl, io_cl (by omega), io_cl (by omega), zlE, zlE, io_sc, o1, sV_eq, sR_sR]
    · by_cases c : k = i
      · subst c
        rw [o3 _ (by omega), sV_g, if_pos ⟨rfl, rfl⟩]
      · rw [o2 k (by omega) k2, sV_g, if_neg (fun q => absurd q.1 (by decide))]
    · rw [o3 k (by omega), sV_g, if_neg (fun q => by omega)]
theorem r_opBl {P : Nat → Prop} {n d : Nat} (hF : ∀ c B', c < 160 → sSo d B B' → ∃ v B2, f_X12_opensFirst_o hub (Int32.ofNat c) (Int32.ofNat n) (Int32.ofNat d) hole B' = some (v, B2) ∧ ((v = 1 ∧ P c) ∨ (v = 0 ∧ ¬ P c)) ∧ sSo d B' B2) : ∀ (m i f : Nat) (B' : zS), i + m = 160 → m < f → sSo d B B' →
    ∃ v B2, f_X12_opensBy_o_L3 hub (fun (q8 : Int32) (S7 : zS) => some (0, S7)) (Int32.ofNat n) (Int32.ofNat d) hole f (Int32.ofNat i) B' = some (v, B2) ∧ ((v = 1 ∧ ∃ c, P c) ∨ (v = 0 ∧ ∀ c, i ≤ c → c < 160 → ¬ P c)) ∧ sSo d B' B2 := by
  intro m
  induction m with
  | zero =>
    intro i f B' hi hf hs
    obtain ⟨f, rfl⟩ : ∃ g, f = g + 1 := ⟨f - 1, by omega⟩
    have hi : i = 160 := by omega
    subst hi
    refine ⟨0, B', ?_, Or.inr ⟨rfl, fun c c1 c2 => by omega⟩, sSo.rfl' d B'⟩
    unfold f_X12_opensBy_o_L3
    exact if_pos (Int32.le_refl _)
  | succ m ih =>
    intro i f B' hi hf hs
    obtain ⟨f, rfl⟩ : ∃ g, f = g + 1 := ⟨f - 1, by omega⟩
    have h160 : ¬ (160 : Int32) ≤ Int32.ofNat i := fun q => by have := (io_le (a := 160) (b := i) (by omega) (by omega)).mp q; omega
    obtain ⟨v, B2, o1, o2, o3⟩ := hF i B' (by omega) hs
    unfold f_X12_opensBy_o_L3
    rw [if_neg h160, o1, zbE]
    rcases o2 with ⟨rfl, o2⟩ | ⟨rfl, o2⟩
    · rw [if_neg (by decide)]
      exact ⟨1, B2, rfl, Or.inl ⟨rfl, i, o2⟩, o3⟩
    · rw [if_pos rfl, zlE, io_sc]
      obtain ⟨v, B3, p1, p2, p3⟩ := ih (i + 1) f B2 (by omega) (by omega) (hs.tr o3)
      refine ⟨v, B3, p1, p2.imp id (fun q => ⟨q.1, fun c c1 c2 => ?_⟩), o3.tr p3⟩
      by_cases e : c = i
      · rw [e]; exact o2
      · exact q.2 c (by omega) c2
end SC
