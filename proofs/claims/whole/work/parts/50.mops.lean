/-! Orders of hands: the reference, and order. -/
section NG
variable {d M nj nh nt : Nat} {A B : zS}
def upO (b c : Option (Nat × Nat)) : Option (Nat × Nat) := match c with
  | none => b
  | some (a', w') => match b with
    | none => some (a', w')
    | some (a, w) => if a' < a then some (a', w') else some (a, w)
theorem upO_assoc (a b c : Option (Nat × Nat)) : upO (upO a b) c = upO a (upO b c) := by
  cases c with
  | none => rfl
  | some c =>
    cases b with
    | none => rfl
    | some b =>
      cases a with
      | none => obtain ⟨b1, b2⟩ := b; obtain ⟨c1, c2⟩ := c; simp only [upO]; split <;> rfl
      | some a =>
        obtain ⟨a1, a2⟩ := a
        obtain ⟨b1, b2⟩ := b
        obtain ⟨c1, c2⟩ := c
        simp only [upO]
        by_cases h1 : b1 < a1
        · by_cases h2 : c1 < b1
          · rw [if_pos h1, if_pos h2]
            simp only [if_pos h2, if_pos (show c1 < a1 by omega)]
          · rw [if_pos h1, if_neg h2]
            simp only [if_neg h2, if_pos h1]
        · by_cases h2 : c1 < b1
          · rw [if_neg h1, if_pos h2]
          · rw [if_neg h1, if_neg h2]
            simp only [if_neg (show ¬ c1 < a1 by omega), if_neg h1]
def shO (c : Nat) (o : Option (Nat × Nat)) : Option (Nat × Nat) := match o with
  | none => none
  | some (n, w) => some (n + c, w)
theorem shO_upO (c : Nat) (a b : Option (Nat × Nat)) : shO c (upO a b) = upO (shO c a) (shO c b) := by
  cases b with
  | none => rfl
  | some b =>
    cases a with
    | none => rfl
    | some a =>
      obtain ⟨a1, a2⟩ := a
      obtain ⟨b1, b2⟩ := b
      simp only [upO, shO]
      by_cases h1 : b1 < a1
      · rw [if_pos h1, if_pos (show b1 + c < a1 + c by omega)]
      · rw [if_neg h1, if_neg (show ¬ b1 + c < a1 + c by omega)]
theorem shO_1 (c : Nat) (o : Option (Nat × Nat)) : shO c (shO 1 o) = shO (c + 1) o := by
  cases o with
  | none => rfl
  | some a =>
    obtain ⟨a1, a2⟩ := a
    show some (a1 + 1 + c, a2) = some (a1 + (c + 1), a2)
    rw [show a1 + 1 + c = a1 + (c + 1) by omega]
theorem shO_0 (o : Option (Nat × Nat)) : shO 0 o = o := by
  cases o with
  | none => rfl
  | some a => rfl
theorem fst_ge (f : Nat → Option Nat) : ∀ k n a w, fstO f k n = some (a, w) → n ≤ a
  | 0, _, _, _, h => by cases h
  | k + 1, n, a, w, h => by
    unfold fstO at h
    cases hf : f n with
    | some x => rw [hf] at h; cases h; omega
    | none => rw [hf] at h; have := fst_ge f k (n + 1) a w h; omega
theorem fst_or {f g F : Nat → Option Nat} (hF : ∀ n, F n = match f n with | some w => some w | none => g n) : ∀ k n, fstO F k n = upO (fstO f k n) (fstO g k n)
  | 0, _ => rfl
  | k + 1, n => by
    have hn := hF n
    unfold fstO
    cases hf : f n with
    | some x =>
      rw [hf] at hn
      rw [hn]
      cases hg : g n with
      | some y => simp only [upO]; rw [if_neg (by omega)]
      | none =>
        simp only
        cases ho : fstO g k (n + 1) with
        | none => rfl
        | some a =>
          obtain ⟨a1, a2⟩ := a
          have := fst_ge g k (n + 1) a1 a2 ho
          simp only [upO]
          rw [if_neg (by omega)]
    | none =>
      rw [hf] at hn
      rw [hn]
      cases hg : g n with
      | some y =>
        simp only
        cases ho : fstO f k (n + 1) with
        | none => rfl
        | some a =>
          obtain ⟨a1, a2⟩ := a
          have := fst_ge f k (n + 1) a1 a2 ho
          simp only [upO]
          rw [if_pos (by omega)]
      | none => exact fst_or hF k (n + 1)
theorem fst_sh {f g : Nat → Option Nat} : ∀ k n, (∀ i, n ≤ i → f (i + 1) = g i) → fstO f k (n + 1) = shO 1 (fstO g k n)
  | 0, _, _ => rfl
  | k + 1, n, h => by
    unfold fstO
    rw [h n (by omega)]
    cases hg : g n with
    | some y => rfl
    | none => exact fst_sh k (n + 1) (fun i hi => h i (by omega))
theorem fst_none : ∀ k n, fstO (fun _ => none) k n = none
  | 0, _ => rfl
  | k + 1, n => fst_none k (n + 1)
/-- the best line kept by the reference -/
def BR (B : zS) (b : Option (Nat × Nat)) : Prop := match b with
  | none => B.1 41 42 = -1
  | some (a, w) => B.1 41 42 = Int32.ofNat w ∧ B.1 41 43 = Int32.ofNat a ∧ w < 1000000 ∧ a ≤ 6
theorem BR.run {B B' : zS} {b : Option (Nat × Nat)} (H : BR B b) (h : sRun B B') : BR B' b := by
  unfold BR at *
  rw [h.2.1 42 (by omega) (by decide) (by decide) (by decide) (by decide) (by decide), h.2.1 43 (by omega) (by decide) (by decide) (by decide) (by decide) (by decide)]
  exact H
theorem io_dig' (a h : Nat) : 10 * Int32.ofNat a + Int32.ofNat h = Int32.ofNat (a * 10 + h) := by rw [Int32.mul_comm]; exact io_dig a h
theorem r_has {m h : Nat} (hm : m < 64) (hh : h < 6) (S : zS) : f_X12_has (Int32.ofNat m) (Int32.ofNat h) S = some (if m.testBit h then 1 else 0, S) := by
  have n01 : ¬ (0 : Int32) = 1 := by decide
  unfold f_X12_has
  rw [bt_1 hm hh]
  cases m.testBit h with
  | true => rfl
  | false => rfl
theorem fill_pre {m h : Nat} : ∀ h ln, (∀ i, i < h → m.testBit i = true) → h ≤ nh → fillM m nh 0 ln = fillM m (nh - h) h ln
  | 0, ln, _, _ => rfl
  | h + 1, ln, H, hh => by
    rw [fill_pre (m := m) (h := h) h ln (fun i hi => H i (by omega)) (by omega), show nh - h = (nh - (h + 1)) + 1 by omega]
    show (if m.testBit h then _ else _) = _
    rw [if_pos (H h (by omega))]
theorem r_goA {B0 : zS} (n6 : nh ≤ 6) (e25 : B0.1 41 25 = Int32.ofNat nh) : ∀ (k c G m ln a : Nat) (b : Option (Nat × Nat)) (B : zS), c + k = nh → k < G → m < 64 → ln < 10 ^ c → c + un m nh 0 = nh → a ≤ 6 → sOrd B0 B → BR B b →
    ∃ B', f_X12_goOrder_g G (Int32.ofNat m) (Int32.ofNat ln) (Int32.ofNat c) (Int32.ofNat a) B = some ((), B') ∧ sOrd B0 B' ∧ BR B' (upO b (some (a, fillM m nh 0 ln))) := by
  intro k
  induction k with
  | zero =>
    intro c G m ln a b B hk hG hm hln hun ha hs hB
    obtain ⟨G, rfl⟩ : ∃ g, G = g + 1 := ⟨G - 1, by omega⟩
    have hc : c = nh := by omega
    subst hc
    have x25 : B.1 41 25 = Int32.ofNat c := by rw [hs.2.1 25 (by omega) (by decide) (by omega)]; exact e25
    have hw : ln < 1000000 := by
      have := Nat.pow_le_pow_right (n := 10) (by omega) n6
      omega
    show ∃ B', f_X12_goOrder_o (f_X12_goOrder_g G) _ _ _ _ _ = _ ∧ _
    unfold f_X12_goOrder_o
    rw [x25, if_neg (fun q => q rfl), if_neg (io_ne1 (by omega)), fill_un c 0 ln (by omega)]
    simp only [zlE]
    have sS : sOrd B0 (sV (sV B 41 42 (Int32.ofNat ln)) 41 43 (Int32.ofNat a)) := (hs.tr (sOrd.fld (by omega) _)).tr (sOrd.fld (by omega) _)
    have bS : BR (sV (sV B 41 42 (Int32.ofNat ln)) 41 43 (Int32.ofNat a)) (some (a, ln)) := by
      refine ⟨?_, ?_, hw, ha⟩
      · rw [sV_eq, sR_at, ru_ne (by decide), sV_eq, sR_at, ru_at]
      · rw [sV_eq, sR_at, ru_at]
    cases b with
    | none =>
      rw [if_pos (show B.1 41 42 = -1 from hB)]
      exact ⟨_, rfl, sS, bS⟩
    | some b =>
      obtain ⟨b1, b2⟩ := b
      obtain ⟨q1, q2, q3, q4⟩ := hB
      rw [q1, if_neg (io_ne1 (by omega)), q2]
      by_cases hab : a < b1
      · rw [if_pos ((io_lt (by omega) (by omega)).mpr hab)]
        refine ⟨_, rfl, sS, ?_⟩
        simp only [upO]
        rw [if_pos hab]
        exact bS
      · rw [if_neg (fun q => hab ((io_lt (by omega) (by omega)).mp q))]
        refine ⟨_, rfl, hs, ?_⟩
        simp only [upO]
        rw [if_neg hab]
        exact ⟨q1, q2, q3, q4⟩
  | succ k ih =>
    intro c G m ln a b B hk hG hm hln hun ha hs hB
    obtain ⟨G, rfl⟩ : ∃ g, G = g + 1 := ⟨G - 1, by omega⟩
    have x25 : B.1 41 25 = Int32.ofNat nh := by rw [hs.2.1 25 (by omega) (by decide) (by omega)]; exact e25
    show ∃ B', f_X12_goOrder_o (f_X12_goOrder_g G) _ _ _ _ _ = _ ∧ _
    unfold f_X12_goOrder_o
    rw [x25, if_pos (fun q => by have := (io_eq (by omega) (by omega)).mp q; omega)]
    have na : ¬ Int32.ofNat a = -1 := io_ne1 (by omega)
    have step : ∀ (h : Nat), h < nh → m.testBit h = false → ∀ (b : Option (Nat × Nat)) (B : zS), sOrd B0 B → BR B b → ∃ B', f_X12_goOrder_g G (Int32.ofNat (m ||| 2 ^ h)) (Int32.ofNat (ln * 10 + h)) (Int32.ofNat (c + 1)) (Int32.ofNat a) B = some ((), B') ∧ sOrd B0 B' ∧ BR B' (upO b (some (a, fillM (m ||| 2 ^ h) nh 0 (ln * 10 + h)))) := by
      intro h hh hb b B hs hB
      have hu := un_set hb nh 0 (by omega) (by omega)
      exact ih (c + 1) G (m ||| 2 ^ h) (ln * 10 + h) a b B (by omega) (by omega) (bt_3 hm (by omega)) (by rw [Nat.pow_succ]; omega) (by omega) ha hs hB
    have two : ∀ (j h f : Nat) (B : zS) (b1 b2 : Nat), h + j = nh → j < f → sOrd B0 B → BR B (some (b1, b2)) → b1 ≤ a → ∃ B', f_X12_goOrder_o_L47 (f_X12_goOrder_g G) (fun (q29 : Int32) (S28 : zS) => some ((), S28)) (Int32.ofNat m) (Int32.ofNat ln) (Int32.ofNat c) (Int32.ofNat a) f (Int32.ofNat h) B = some ((), B') ∧ sOrd B0 B' ∧ BR B' (some (b1, b2)) := by
      intro j
      induction j with
      | zero =>
        intro h f B b1 b2 hi hf hs hB hb
        obtain ⟨f, rfl⟩ : ∃ g, f = g + 1 := ⟨f - 1, by omega⟩
        have hi : h = nh := by omega
        subst hi
        unfold f_X12_goOrder_o_L47
        rw [hs.2.1 25 (by omega) (by decide) (by omega), e25, if_pos (Int32.le_refl _)]
        exact ⟨B, rfl, hs, hB⟩
      | succ j ihj =>
        intro h f B b1 b2 hi hf hs hB hb
        obtain ⟨f, rfl⟩ : ∃ g, f = g + 1 := ⟨f - 1, by omega⟩
        have hlt : ¬ Int32.ofNat nh ≤ Int32.ofNat h := fun q => by have := (io_le (by omega) (by omega)).mp q; omega
        unfold f_X12_goOrder_o_L47
        rw [hs.2.1 25 (by omega) (by decide) (by omega), e25, if_neg hlt, r_has hm (by omega), zbE]
        simp (disch := omega) only [zlE, io_sc, bt_2, io_dig']
        cases hb2 : m.testBit h with
        | true =>
          rw [if_pos rfl, if_neg n10]
          exact ihj (h + 1) f B b1 b2 (by omega) (by omega) hs hB hb
        | false =>
          obtain ⟨B1, z1, z2, z3⟩ := step h (by omega) hb2 _ B hs hB
          simp only [upO] at z3
          rw [if_neg (by omega)] at z3
          rw [if_neg (show ¬ false = true by decide), if_pos rfl, if_neg na, z1, zbE]
          exact ihj (h + 1) f B1 b1 b2 (by omega) (by omega) z2 z3 hb
    have one : ∀ (j h f : Nat), h + j = nh → j < f → (∀ i, i < h → m.testBit i = true) → 0 < un m j h → ∃ B', f_X12_goOrder_o_L47 (f_X12_goOrder_g G) (fun (q29 : Int32) (S28 : zS) => some ((), S28)) (Int32.ofNat m) (Int32.ofNat ln) (Int32.ofNat c) (Int32.ofNat a) f (Int32.ofNat h) B = some ((), B') ∧ sOrd B0 B' ∧ BR B' (upO b (some (a, fillM m j h ln))) := by
      intro j
      induction j with
      | zero => intro h f hi hf hall hu; exact absurd hu (by unfold un; omega)
      | succ j ihj =>
        intro h f hi hf hall hu
        obtain ⟨f, rfl⟩ : ∃ g, f = g + 1 := ⟨f - 1, by omega⟩
        have hlt : ¬ Int32.ofNat nh ≤ Int32.ofNat h := fun q => by have := (io_le (by omega) (by omega)).mp q; omega
        unfold f_X12_goOrder_o_L47 fillM
        rw [x25, if_neg hlt, r_has hm (by omega), zbE]
        simp (disch := omega) only [zlE, io_sc, bt_2, io_dig']
        cases hb2 : m.testBit h with
        | true =>
          unfold un at hu
          rw [hb2, if_pos rfl] at hu
          rw [if_pos rfl, if_pos rfl, if_neg n10]
          exact ihj (h + 1) f (by omega) (by omega) (fun i hi => by
            by_cases hih : i = h
            · rw [hih]; exact hb2
            · exact hall i (by omega)) (by omega)
        | false =>
          obtain ⟨B1, z1, z2, z3⟩ := step h (by omega) hb2 b B hs hB
          have ef : fillM (m ||| 2 ^ h) nh 0 (ln * 10 + h) = fillM m j (h + 1) (ln * 10 + h) := by
            rw [fill_pre (nh := nh) (m := m ||| 2 ^ h) (h := h) (h + 1) _ (fun i hi => by
              by_cases hih : i = h
              · rw [hih]; exact bt_at m h
              · rw [bt_ne hih]; exact hall i (by omega)) (by omega), show nh - (h + 1) = j by omega]
            exact fill_cg j (h + 1) _ (fun i h1 h2 => bt_ne (by omega))
          rw [ef] at z3
          have nf : ¬ false = true := by decide
          rw [if_neg nf, if_neg nf, if_pos rfl, if_neg na, z1, zbE]
          have key : ∃ b1 b2, upO b (some (a, fillM m j (h + 1) (ln * 10 + h))) = some (b1, b2) ∧ b1 ≤ a := by
            cases b with
            | none => exact ⟨_, _, rfl, Nat.le_refl _⟩
            | some b =>
              obtain ⟨b1, b2⟩ := b
              simp only [upO]
              by_cases hab : a < b1
              · rw [if_pos hab]; exact ⟨_, _, rfl, Nat.le_refl _⟩
              · rw [if_neg hab]; exact ⟨_, _, rfl, by omega⟩
          obtain ⟨b1, b2, k1, k2⟩ := key
          rw [k1] at z3 ⊢
          exact two j (h + 1) f B1 b1 b2 (by omega) (by omega) z2 z3 k2
    exact one nh 0 zN (by omega) (by unfold zN; omega) (fun i hi => absurd hi (by omega)) (by omega)
end NG
