/-! soonest: rows of acts. -/
section SB
variable {W : zLw} {jT hT tT : Nat → Int32} {nj nh nt tb M : Nat} {hole : Int32} {r : Nat → Int32} {c : Nat}
def cO1 (act : Nat → (Nat → Int32) → Nat → Int32) (tb c : Nat) (r : Nat → Int32) : Prop := act c r (7 * tb + 5) = 1
def cO2 (act : Nat → (Nat → Int32) → Nat → Int32) (W : zLw) (jT hT tT : Nat → Int32) (nh nt tb c : Nat) (r : Nat → Int32) : Prop := ¬ act c r (7 * tb + 6) = 1 ∧ byTry W jT hT tT nh nt tb (act c r)
def inTwo (act : Nat → (Nat → Int32) → Nat → Int32) (ac : Nat → Prop) (W : zLw) (jT hT tT : Nat → Int32) (nh nt tb : Nat) (r : Nat → Int32) : Prop := (∃ c, ac c ∧ c < 100 ∧ ¬ act c r (7 * tb + 6) = 1 ∧ byTry W jT hT tT nh nt tb (act c r)) ∨ ∃ h, h < nh ∧ byTry W jT hT tT nh nt tb (tryM loC hT tb h (gMax W jT hT tT nt tb r h) r)
def cO3 (act : Nat → (Nat → Int32) → Nat → Int32) (ac : Nat → Prop) (W : zLw) (jT hT tT : Nat → Int32) (nh nt tb c : Nat) (r : Nat → Int32) : Prop := ¬ act c r (7 * tb + 6) = 1 ∧ inTwo act ac W jT hT tT nh nt tb (act c r)
theorem can_try (n6 : nh ≤ 6) (hc : canN nh nt c) (h : ¬ c < 100) : ∃ h t, h < nh ∧ t < 10 ∧ (t = 9 ∨ t < nt) ∧ c = 100 + 10 * h + t := by
  unfold canN at hc
  exact ⟨(c - 100) / 10, (c - 100) % 10, by omega, by omega, by omega, by omega⟩
theorem try_can {h : Nat} {t : Option Nat} (n6 : nh ≤ 6) (n44 : nt ≤ 4) (hh : h < nh) (ht : ∀ k, t = some k → k < nt) : ∃ x, x < 10 ∧ toolO x = t ∧ acN nh nt hole (100 + 10 * h + x) := by
  cases t with
  | none => exact ⟨9, by omega, rfl, by omega, by unfold canN; omega, fun q => by omega⟩
  | some k =>
    have := ht k rfl
    exact ⟨k, by omega, by unfold toolO; rw [if_neg (by omega)], by omega, by unfold canN; omega, fun q => by omega⟩
theorem opB_1 (hb : tb < 4) (n4 : nj ≤ 4) (n6 : nh ≤ 6) (n44 : nt ≤ 4) (h5 : ¬ r (7 * tb + 5) = 1) : opB (actM loC W jT hT tT nj nh tb) (acN nh nt hole) tb 1 r ↔ byTry W jT hT tT nh nt tb r := by
  constructor
  · rintro ⟨c, c1, c2⟩
    have c2 : actM loC W jT hT tT nj nh tb c r (7 * tb + 5) = 1 := c2.elim id (fun q => q.2.elim)
    by_cases hx : c < 100
    · rw [act_o5 hb n4 n6 c1.2.1 hx] at c2
      exact absurd c2 h5
    · obtain ⟨h, t, h1, h2, h3, rfl⟩ := can_try n6 c1.2.1 hx
      rw [act_try h2, try_5 hb (by omega) h5] at c2
      exact byTry_iff.mpr ⟨h, toolO t, h1, toolO_n h3, c2⟩
  · intro q
    obtain ⟨h, t, h1, h2, h3⟩ := byTry_iff.mp q
    obtain ⟨x, x1, x2, x3⟩ := try_can (hole := hole) n6 n44 h1 h2
    refine ⟨_, x3, Or.inl ?_⟩
    rw [act_try x1, try_5 hb (by omega) h5, x2]
    exact h3
theorem soon1 (hc : acN nh nt hole c) : opF (actM loC W jT hT tT nj nh tb) (acN nh nt hole) tb c 0 r ↔ cO1 (actM loC W jT hT tT nj nh tb) tb c r :=
  ⟨fun q => q.2.elim id (fun q => q.2.elim), fun q => ⟨hc, Or.inl q⟩⟩
theorem soon2 (hb : tb < 4) (n4 : nj ≤ 4) (n6 : nh ≤ 6) (n44 : nt ≤ 4) (hc : acN nh nt hole c) (h1 : ¬ cO1 (actM loC W jT hT tT nj nh tb) tb c r) : opF (actM loC W jT hT tT nj nh tb) (acN nh nt hole) tb c 1 r ↔ cO2 (actM loC W jT hT tT nj nh tb) W jT hT tT nh nt tb c r := by
  unfold opF cO2
  rw [opB_1 hb n4 n6 n44 h1]
  exact ⟨fun q => q.2.elim (fun q => absurd q h1) id, fun q => ⟨hc, Or.inr q⟩⟩
theorem opB_2 {jR : Nat → Int32} (hb : tb < 4) (n4 : nj ≤ 4) (n6 : nh ≤ 6) (n44 : nt ≤ 4) (hM : M < 950000) (h3 : ∀ h, h < nh → 0 ≤ (hT (5 * h + 3)).toInt) (R : RowOk jR nj M r) (h5 : ¬ r (7 * tb + 5) = 1) (h6 : ¬ r (7 * tb + 6) = 1) (hn : ¬ byTry W jT hT tT nh nt tb r) :
    opB (actM loC W jT hT tT nj nh tb) (acN nh nt hole) tb 2 r ↔ inTwo (actM loC W jT hT tT nj nh tb) (acN nh nt hole) W jT hT tT nh nt tb r := by
  have n5 : ∀ c, acN nh nt hole c → ¬ actM loC W jT hT tT nj nh tb c r (7 * tb + 5) = 1 := fun c c1 q => hn ((opB_1 (hole := hole) hb n4 n6 n44 h5).mp ⟨c, c1, Or.inl q⟩)
  have gm : ∀ h, h < nh → gMax W jT hT tT nt tb r h < holdM r tb := fun h hh => by
    by_cases q : gMax W jT hT tT nt tb r h < holdM r tb
    · exact q
    · exact absurd ⟨h, hh, q⟩ hn
  constructor
  · rintro ⟨c, c1, c2⟩
    rcases c2 with c2 | ⟨c2, c3⟩
    · exact absurd c2 (n5 c c1)
    · rw [opB_1 hb n4 n6 n44 (n5 c c1)] at c3
      by_cases hx : c < 100
      · exact Or.inl ⟨c, c1, hx, c2, c3⟩
      · obtain ⟨h, t, k1, k2, k3, rfl⟩ := can_try n6 c1.2.1 hx
        rw [act_try k2] at c3
        exact Or.inr ⟨h, k1, byTry_mono R hM hb n6 (by omega) (h3 h k1) gripM_bd.1 (gTop_ge (fun t => gripM W jT hT tT r h t tb) nt _ (toolO_n k3)) (gm h k1) c3⟩
  · rintro (⟨c, c1, c2, c3, c4⟩ | ⟨h, k1, k2⟩)
    · exact ⟨c, c1, Or.inr ⟨c3, (opB_1 hb n4 n6 n44 (n5 c c1)).mpr c4⟩⟩
    · obtain ⟨t, t1, t2⟩ := gTop_at (fun t => gripM W jT hT tT r h t tb) nt
      obtain ⟨x, x1, x2, x3⟩ := try_can (hole := hole) n6 n44 k1 t1
      refine ⟨_, x3, Or.inr ⟨?_, (opB_1 hb n4 n6 n44 (n5 _ x3)).mpr ?_⟩⟩
      · rw [act_try x1, try_6 hb (by omega)]
        exact h6
      · rw [act_try x1, x2]
        unfold gMax at k2
        rw [t2] at k2
        exact k2
theorem soon3 {jR : Nat → Int32} (hb : tb < 4) (n4 : nj ≤ 4) (n6 : nh ≤ 6) (n44 : nt ≤ 4) (hM : M < 950000) (h3 : ∀ h, h < nh → 0 ≤ (hT (5 * h + 3)).toInt) (R : RowOk jR nj M (actM loC W jT hT tT nj nh tb c r)) (hc : acN nh nt hole c) (h1 : ¬ cO1 (actM loC W jT hT tT nj nh tb) tb c r) (h2 : ¬ cO2 (actM loC W jT hT tT nj nh tb) W jT hT tT nh nt tb c r) :
    opF (actM loC W jT hT tT nj nh tb) (acN nh nt hole) tb c 2 r ↔ cO3 (actM loC W jT hT tT nj nh tb) (acN nh nt hole) W jT hT tT nh nt tb c r := by
  constructor
  · rintro ⟨-, q | ⟨q1, q2⟩⟩
    · exact absurd q h1
    · exact ⟨q1, (opB_2 hb n4 n6 n44 hM h3 R h1 q1 (fun z => h2 ⟨q1, z⟩)).mp q2⟩
  · rintro ⟨q1, q2⟩
    exact ⟨hc, Or.inr ⟨q1, (opB_2 hb n4 n6 n44 hM h3 R h1 q1 (fun z => h2 ⟨q1, z⟩)).mpr q2⟩⟩
end SB
