/-! soonest: the class's list of acts. -/
section SF
variable {nj nh nt : Nat} {hole : Int32} {A : zS}
/-- the list of acts below a bound -/
def Lst (nh nt : Nat) (hole : Int32) (bd n : Nat) (a : Nat → Nat) (A : zS) : Prop := A.1 26 4 = Int32.ofNat n ∧ (∀ i, i < n → A.1 27 i = Int32.ofNat (a i)) ∧ (∀ i j, i < j → j < n → a i < a j) ∧ (∀ i, i < n → acN nh nt hole (a i) ∧ a i < bd) ∧ ∀ c, acN nh nt hole c → c < bd → ∃ i, i < n ∧ a i = c
def sL (A A' : zS) : Prop := A'.2 = A.2 ∧ ∀ b, b ≠ 26 → b ≠ 27 → b ≠ 30 → A'.1 b = A.1 b
theorem sL.rfl' (A : zS) : sL A A := ⟨rfl, fun _ _ _ _ => rfl⟩
theorem sL.tr {A B C : zS} (h1 : sL A B) (h2 : sL B C) : sL A C := ⟨h2.1.trans h1.1, fun b x y z => (h2.2 b x y z).trans (h1.2 b x y z)⟩
theorem Lst.skip {b b' n : Nat} {a : Nat → Nat} (H : Lst nh nt hole b n a A) (hb : b ≤ b') (h : ∀ c, b ≤ c → c < b' → ¬ acN nh nt hole c) : Lst nh nt hole b' n a A :=
  ⟨H.1, H.2.1, H.2.2.1, fun i hi => ⟨(H.2.2.2.1 i hi).1, by have := (H.2.2.2.1 i hi).2; omega⟩, fun c c1 c2 => by
    by_cases q : c < b
    · exact H.2.2.2.2 c c1 q
    · exact absurd c1 (h c (by omega) c2)⟩
theorem c_addAct {b n c : Nat} {a : Nat → Nat} {x : Int32} (H : Lst nh nt hole b n a A) (hn : n < 41) (hc : acN nh nt hole c) (hb : b = c) (hx : x = Int32.ofNat c) : ∃ A' a', f_X8_addAct x A = some ((), A') ∧ Lst nh nt hole (c + 1) (n + 1) a' A' ∧ sL A A' ∧ A'.1 30 = A.1 30 := by
  obtain ⟨h1, h2, h3, h4, h5⟩ := H
  subst hb hx
  refine ⟨sV (sV A 27 n (Int32.ofNat b)) 26 4 (Int32.ofNat (n + 1)), fun k => if k = n then b else a k, ?_, ⟨?_, fun i hi => ?_, fun i j hij hj => ?_, fun i hi => ?_, fun c c1 c2 => ?_⟩, ⟨rfl, fun b' x y _ => ?_⟩, ?_⟩
  · unfold f_X8_addAct
    have e : (sV A 27 n (Int32.ofNat b)).1 26 4 = Int32.ofNat n := by rw [sV_g, if_neg (fun q => absurd q.1 (by decide))]; exact h1
    rw [h1, if_neg (show ¬ (41 : Int32) ≤ Int32.ofNat n from fun q => by have := (io_le (a := 41) (by omega) (by omega)).mp q; omega), io_in (by omega) (by omega), if_pos rfl, io_cl (by omega), zlE, zlE, e, io_sc]
  · rw [sV_g, if_pos ⟨rfl, rfl⟩]
  · rw [sV_g, if_neg (fun q => absurd q.1 (by decide)), sV_g]
    dsimp only
    by_cases c : i = n
    · rw [if_pos ⟨rfl, c⟩, if_pos c]
    · rw [if_neg (fun q => c q.2), if_neg c]
      exact h2 i (by omega)
  · show (if i = n then b else a i) < (if j = n then b else a j)
    rw [if_neg (by omega)]
    by_cases c : j = n
    · rw [if_pos c]
      exact (h4 i (by omega)).2
    · rw [if_neg c]
      exact h3 i j hij (by omega)
  · show acN nh nt hole (if i = n then b else a i) ∧ (if i = n then b else a i) < b + 1
    by_cases c : i = n
    · rw [if_pos c]
      exact ⟨hc, by omega⟩
    · rw [if_neg c]
      have := h4 i (by omega)
      exact ⟨this.1, by omega⟩
  · by_cases q : c = b
    · exact ⟨n, by omega, (if_pos rfl).trans q.symm⟩
    · obtain ⟨i, i1, i2⟩ := h5 c c1 (by omega)
      exact ⟨i, by omega, (if_neg (by omega)).trans i2⟩
  · rw [sV_eq, sR_ne _ _ x, sV_eq, sR_ne _ _ y]
  · rw [sV_eq, sR_ne _ _ (by decide), sV_eq, sR_ne _ _ (by decide)]
theorem c_list7 {ex : Int32 → zS → Option (Unit × zS)} : ∀ (m i f n : Nat) (a : Nat → Nat) (A : zS), i + m = 5 → m < f → n ≤ i → Lst nh nt hole i n a A → ∃ n' a' A', f_X8_listActs_L7 ex hole f (Int32.ofNat i) A = ex 5 A' ∧ Lst nh nt hole 5 n' a' A' ∧ n' ≤ 5 ∧ sL A A' ∧ A'.1 30 = A.1 30 := by
  intro m
  induction m with
  | zero =>
    intro i f n a A hi hf hn H
    obtain ⟨f, rfl⟩ : ∃ g, f = g + 1 := ⟨f - 1, by omega⟩
    have hi : i = 5 := by omega
    subst hi
    exact ⟨n, a, A, by unfold f_X8_listActs_L7; exact if_pos (by decide), H, hn, sL.rfl' A, rfl⟩
  | succ m ih =>
    intro i f n a A hi hf hn H
    obtain ⟨f, rfl⟩ : ∃ g, f = g + 1 := ⟨f - 1, by omega⟩
    have h4 : ¬ (4 : Int32) < Int32.ofNat i := fun q => by have := (io_lt (a := 4) (by omega) (by omega)).mp q; omega
    have e2 : Int32.ofNat i = 2 ↔ i = 2 := io_eq (b := 2) (by omega) (by omega)
    unfold f_X8_listActs_L7
    rw [if_neg h4]
    simp only [zlE, io_sc, e2]
    have add : acN nh nt hole i → ∃ n' a' A', (zb (f_X8_addAct (Int32.ofNat i) A) fun _ S6 => f_X8_listActs_L7 ex hole f (Int32.ofNat (i + 1)) S6) = ex 5 A' ∧ Lst nh nt hole 5 n' a' A' ∧ n' ≤ 5 ∧ sL A A' ∧ A'.1 30 = A.1 30 := fun hc => by
      obtain ⟨A1, a1, q1, q2, q3, q4⟩ := c_addAct H (by omega) hc rfl rfl
      obtain ⟨n2, a2, A2, p1, p2, p3, p4, p5⟩ := ih (i + 1) f (n + 1) a1 A1 (by omega) (by omega) (by omega) q2
      exact ⟨n2, a2, A2, by rw [q1, zbE, p1], p2, p3, q3.tr p4, p5.trans q4⟩
    by_cases c2 : i = 2
    · rw [if_neg (nn c2)]
      by_cases c0 : hole = 0
      · rw [if_pos c0]
        exact ih (i + 1) f n a A (by omega) (by omega) (by omega) (H.skip (by omega) (fun c q1 q2 q3 => q3.2.2 (by omega) c0))
      · rw [if_neg c0]
        exact add ⟨by omega, Or.inl (by omega), fun _ => c0⟩
    · rw [if_pos c2]
      exact add ⟨by omega, Or.inl (by omega), fun q => absurd q c2⟩
theorem c_list34 {ex : Int32 → zS → Option (Unit × zS)} (n6 : nh ≤ 6) : ∀ (m i f n : Nat) (a : Nat → Nat) (A : zS), i + m = nh → m < f → n ≤ 5 + i → A.1 12 1 = Int32.ofNat nh → Lst nh nt hole (10 + i) n a A → ∃ n' a' A', f_X8_listActs_L34 ex hole f (Int32.ofNat i) A = ex (Int32.ofNat nh) A' ∧ Lst nh nt hole (10 + nh) n' a' A' ∧ n' ≤ 5 + nh ∧ sL A A' ∧ A'.1 30 = A.1 30 := by
  intro m
  induction m with
  | zero =>
    intro i f n a A hi hf hn hh H
    obtain ⟨f, rfl⟩ : ∃ g, f = g + 1 := ⟨f - 1, by omega⟩
    have hi : i = nh := by omega
    subst hi
    exact ⟨n, a, A, by unfold f_X8_listActs_L34; rw [hh]; exact if_pos (Int32.le_refl _), H, hn, sL.rfl' A, rfl⟩
  | succ m ih =>
    intro i f n a A hi hf hn hh H
    obtain ⟨f, rfl⟩ : ∃ g, f = g + 1 := ⟨f - 1, by omega⟩
    obtain ⟨A1, a1, q1, q2, q3, q4⟩ := c_addAct (x := 10 + Int32.ofNat i) H (by omega) ⟨by omega, Or.inr (Or.inl (by omega)), fun q => by omega⟩ rfl (ix_k10 i)
    obtain ⟨n2, a2, A2, p1, p2, p3, p4, p5⟩ := ih (i + 1) f (n + 1) a1 A1 (by omega) (by omega) (by omega) (by rw [q3.2 12 (by decide) (by decide) (by decide)]; exact hh) q2
    refine ⟨n2, a2, A2, ?_, p2, p3, q3.tr p4, p5.trans q4⟩
    unfold f_X8_listActs_L34
    rw [hh, if_neg (show ¬ Int32.ofNat nh ≤ Int32.ofNat i from fun q => by have := (io_le (by omega) (by omega)).mp q; omega), q1, zbE, zlE, io_sc, p1]
theorem c_list78 {ex : Int32 → Int32 → zS → Option (Unit × zS)} (n6 : nh ≤ 6) (n44 : nt ≤ 4) : ∀ (m h t f n : Nat) (a : Nat → Nat) (A : zS), (nh - h) * 6 + (5 - t) = m → m < f → h < nh → t ≤ nt → n ≤ 11 + 5 * h + t → A.1 12 1 = Int32.ofNat nh → A.1 12 2 = Int32.ofNat nt → Lst nh nt hole (100 + 10 * h + t) n a A →
    ∃ n' a' A' y, f_X8_listActs_L78 ex hole f (Int32.ofNat h) (Int32.ofNat t) A = ex (Int32.ofNat nh) y A' ∧ Lst nh nt hole (100 + 10 * nh) n' a' A' ∧ n' ≤ 41 ∧ sL A A' ∧ A'.1 30 = A.1 30 := by
  intro m
  induction m using Nat.strongRecOn with
  | ind m ih =>
    intro h t f n a A hm hf hh ht hn k1 k2 H
    obtain ⟨f, rfl⟩ : ∃ g, f = g + 1 := ⟨f - 1, by omega⟩
    unfold f_X8_listActs_L78
    rw [k2]
    by_cases c : t = nt
    · subst c
      rw [if_pos (Int32.le_refl _)]
      have e := tryCode_t (Int32.ofNat h) none (fun k q => by cases q) A
      have ev : 100 + 10 * Int32.ofNat h + (if ¬ toolV none = -1 then toolV none else 9) = Int32.ofNat (100 + 10 * h + 9) := by
        rw [if_neg (nn (show toolV none = -1 from rfl)), ix_m10, ix_k100]
        exact ix_aa _ 9
      rw [ev] at e
      obtain ⟨A1, a1, q1, q2, q3, q4⟩ := c_addAct (x := Int32.ofNat (100 + 10 * h + 9)) (H.skip (b' := 100 + 10 * h + 9) (by omega) (fun c c1 c2 c3 => by have := c3.2.1; unfold canN at this; omega)) (by omega) ⟨by omega, Or.inr (Or.inr (by omega)), fun q => by omega⟩ rfl rfl
      have k1' : A1.1 12 1 = Int32.ofNat nh := by rw [q3.2 12 (by decide) (by decide) (by decide)]; exact k1
      have k2' : A1.1 12 2 = Int32.ofNat t := by rw [q3.2 12 (by decide) (by decide) (by decide)]; exact k2
      rw [show f_X11_tryCode (Int32.ofNat h) (-1) A = some (Int32.ofNat (100 + 10 * h + 9), A) from e, zbE, q1, zbE, zlE, io_sc, k1']
      have q2' : Lst nh t hole (100 + 10 * (h + 1) + 0) (n + 1) a1 A1 := by
        rw [show 100 + 10 * (h + 1) + 0 = 100 + 10 * h + 9 + 1 by omega]
        exact q2
      by_cases c6 : h + 1 = nh
      · rw [c6, if_pos (Int32.le_refl _)]
        exact ⟨n + 1, a1, A1, _, rfl, by rw [show 100 + 10 * nh = 100 + 10 * (h + 1) + 0 by omega]; exact q2', by omega, q3, q4⟩
      · rw [if_neg (show ¬ Int32.ofNat nh ≤ Int32.ofNat (h + 1) from fun q => by have := (io_le (by omega) (by omega)).mp q; omega)]
        obtain ⟨n2, a2, A2, y, p1, p2, p3, p4, p5⟩ := ih ((nh - (h + 1)) * 6 + (5 - 0)) (by omega) (h + 1) 0 f (n + 1) a1 A1 rfl (by omega) (by omega) (by omega) (by omega) k1' k2' q2'
        exact ⟨n2, a2, A2, y, p1, p2, p3, q3.tr p4, p5.trans q4⟩
    · rw [if_neg (show ¬ Int32.ofNat nt ≤ Int32.ofNat t from fun q => by have := (io_le (by omega) (by omega)).mp q; omega)]
      have e := tryCode_t (Int32.ofNat h) (some t) (fun k q => by injection q with q; omega) A
      have ev : 100 + 10 * Int32.ofNat h + (if ¬ toolV (some t) = -1 then toolV (some t) else 9) = Int32.ofNat (100 + 10 * h + t) := by
        rw [if_pos (show ¬ toolV (some t) = -1 from io_ne1 (by omega)), ix_m10, ix_k100]
        exact ix_aa _ t
      rw [ev] at e
      obtain ⟨A1, a1, q1, q2, q3, q4⟩ := c_addAct (x := Int32.ofNat (100 + 10 * h + t)) H (by omega) ⟨by omega, Or.inr (Or.inr (by omega)), fun q => by omega⟩ rfl rfl
      have k1' : A1.1 12 1 = Int32.ofNat nh := by rw [q3.2 12 (by decide) (by decide) (by decide)]; exact k1
      have k2' : A1.1 12 2 = Int32.ofNat nt := by rw [q3.2 12 (by decide) (by decide) (by decide)]; exact k2
      rw [show f_X11_tryCode (Int32.ofNat h) (Int32.ofNat t) A = some (Int32.ofNat (100 + 10 * h + t), A) from e, zbE, q1, zbE, zlE, io_sc]
      obtain ⟨n2, a2, A2, y, p1, p2, p3, p4, p5⟩ := ih ((nh - h) * 6 + (5 - (t + 1))) (by omega) h (t + 1) f (n + 1) a1 A1 rfl (by omega) hh (by omega) (by omega) k1' k2' (by rw [show 100 + 10 * h + (t + 1) = 100 + 10 * h + t + 1 by omega]; exact q2)
      exact ⟨n2, a2, A2, y, p1, p2, p3, q3.tr p4, p5.trans q4⟩
theorem c_prepare (n6 : nh ≤ 6) (h0 : 0 < nh) (n44 : nt ≤ 4) (k1 : A.1 12 1 = Int32.ofNat nh) (k2 : A.1 12 2 = Int32.ofNat nt) : ∃ n a A', f_X8_prepare hole A = some ((), A') ∧ Lst nh nt hole 160 n a A' ∧ n ≤ 41 ∧ sL A A' ∧ ∀ h, h < 6 → A'.1 30 h = 0 := by
  obtain ⟨A0, e0⟩ : ∃ A0, A0 = sR A 30 (fun k => if k < 6 then 0 else A.1 30 k) := ⟨_, rfl⟩
  have s0 : sL A A0 := by rw [e0]; exact ⟨rfl, fun b _ _ x => sR_ne _ _ x⟩
  have z0 : ∀ h, h < 6 → A0.1 30 h = 0 := fun h hh => by rw [e0, sR_at]; exact if_pos hh
  obtain ⟨A1, e1⟩ : ∃ A1, A1 = sV A0 26 4 0 := ⟨_, rfl⟩
  have s1 : sL A0 A1 := by rw [e1, sV_eq]; exact ⟨rfl, fun b x _ _ => sR_ne _ _ x⟩
  have z1 : A1.1 30 = A0.1 30 := by rw [e1, sV_eq, sR_ne _ _ (by decide)]
  have L1 : Lst nh nt hole 0 0 (fun _ => 0) A1 := ⟨by rw [e1, sV_g, if_pos ⟨rfl, rfl⟩]; rfl, fun i h => by omega, fun i j _ h => by omega, fun i h => by omega, fun c _ h => by omega⟩
  have s01 := s0.tr s1
  obtain ⟨n2, a2, A2, x1, x2, x3, x4, x5⟩ := c_list7 (ex := fun (q13 : Int32) (S12 : zS) => f_X8_listActs_L34 (fun (q20 : Int32) (S19 : zS) => f_X8_listActs_L63 (fun (q42 : Int32) (S41 : zS) => some ((), S41)) hole zN 0 S19) hole zN 0 S12) 5 0 zN 0 (fun _ => 0) A1 (by omega) (by unfold zN; omega) (by omega) L1
  have s2 := s01.tr x4
  obtain ⟨n3, a3, A3, y1, y2, y3, y4, y5⟩ := c_list34 (ex := fun (q20 : Int32) (S19 : zS) => f_X8_listActs_L63 (fun (q42 : Int32) (S41 : zS) => some ((), S41)) hole zN 0 S19) n6 nh 0 zN n2 a2 A2 (by omega) (by unfold zN; omega) (by omega) (by rw [s2.2 12 (by decide) (by decide) (by decide)]; exact k1) (x2.skip (by omega) (fun c c1 c2 c3 => by have := c3.2.1; unfold canN at this; omega))
  have s3 := s2.tr y4
  have k1' : A3.1 12 1 = Int32.ofNat nh := by rw [s3.2 12 (by decide) (by decide) (by decide)]; exact k1
  have k2' : A3.1 12 2 = Int32.ofNat nt := by rw [s3.2 12 (by decide) (by decide) (by decide)]; exact k2
  obtain ⟨n4, a4, A4, y, w1, w2, w3, w4, w5⟩ := c_list78 (ex := fun (q39 : Int32) (q40 : Int32) (S38 : zS) => some ((), S38)) n6 n44 ((nh - 0) * 6 + (5 - 0)) 0 0 zN n3 a3 A3 rfl (by unfold zN; omega) h0 (by omega) (by omega) k1' k2' (y2.skip (b' := 100 + 10 * 0 + 0) (by omega) (fun c c1 c2 c3 => by have := c3.2.1; unfold canN at this; omega))
  refine ⟨n4, a4, A4, ?_, w2.skip (by omega) (fun c c1 c2 c3 => by have := c3.2.1; unfold canN at this; omega), w3, s3.tr w4, fun h hh => by rw [w5, y5, x5, z1]; exact z0 h hh⟩
  have e63 : f_X8_listActs_L63 (fun (q42 : Int32) (S41 : zS) => some ((), S41)) hole zN 0 A3 = some ((), A4) := by
    have hz : ∃ z, zN = z + 1 := ⟨zN - 1, by unfold zN; omega⟩
    obtain ⟨z, hz⟩ := hz
    have w1' : f_X8_listActs_L78 (fun (q39 : Int32) (q40 : Int32) (S38 : zS) => some ((), S38)) hole zN 0 0 A3 = some ((), A4) := w1
    conv => lhs; rw [hz]
    rw [f_X8_listActs_L63, k1', if_neg (show ¬ Int32.ofNat nh ≤ 0 from fun q => by have := (io_le (b := 0) (by omega) (by omega)).mp q; omega)]
    exact w1'
  unfold f_X8_prepare f_X8_listActs
  rw [c_fill (by omega), zbE, ← e0, zlE, ← e1]
  rw [show f_X8_listActs_L7 _ hole zN 0 A1 = _ from x1]
  try dsimp only
  rw [show f_X8_listActs_L34 _ hole zN 0 A2 = _ from y1]
  try dsimp only
  rw [e63, zbE]
end SF
