/-! soonest: the mathematics. -/
section SA
variable {W : zLw} {jT hT tT : Nat → Int32} {nj nh nt tb M : Nat} {hole : Int32}
/-- an act's number that is asked -/
def acN (nh nt : Nat) (hole : Int32) (c : Nat) : Prop := c < 160 ∧ canN nh nt c ∧ (c = 2 → ¬ hole = 0)
/-- opened by so many acts at most -/
def opB (act : Nat → (Nat → Int32) → Nat → Int32) (ac : Nat → Prop) (tb : Nat) : Nat → (Nat → Int32) → Prop
  | 0, _ => False
  | n + 1, r => ∃ c, ac c ∧ (act c r (7 * tb + 5) = 1 ∨ (¬ act c r (7 * tb + 6) = 1 ∧ opB act ac tb n (act c r)))
def opF (act : Nat → (Nat → Int32) → Nat → Int32) (ac : Nat → Prop) (tb c n : Nat) (r : Nat → Int32) : Prop := ac c ∧ (act c r (7 * tb + 5) = 1 ∨ (¬ act c r (7 * tb + 6) = 1 ∧ opB act ac tb n (act c r)))
def gTop (g : Option Nat → Int32) : Nat → Int32
  | 0 => g none
  | t + 1 => if gTop g t < g (some t) then g (some t) else gTop g t
theorem gTop_at (g : Option Nat → Int32) : ∀ n, ∃ t : Option Nat, (∀ k, t = some k → k < n) ∧ gTop g n = g t
  | 0 => ⟨none, fun k h => (by cases h), rfl⟩
  | n + 1 => by
    obtain ⟨t, h1, h2⟩ := gTop_at g n
    unfold gTop
    by_cases c : gTop g n < g (some n)
    · exact ⟨some n, fun k h => by injection h with h; omega, if_pos c⟩
    · exact ⟨t, fun k h => by have := h1 k h; omega, by rw [if_neg c]; exact h2⟩
theorem gTop_ge (g : Option Nat → Int32) : ∀ n, (∀ t : Option Nat, (∀ k, t = some k → k < n) → (g t).toInt ≤ (gTop g n).toInt)
  | 0, none, _ => Int.le_refl _
  | 0, some k, h => absurd (h k rfl) (by omega)
  | n + 1, t, h => by
    have ih := gTop_ge g n
    unfold gTop
    by_cases c : gTop g n < g (some n)
    · rw [if_pos c]
      have c' := Int32.lt_iff_toInt_lt.mp c
      by_cases e : t = some n
      · rw [e]; exact Int.le_refl _
      · have := ih t (fun k hk => by
          have := h k hk
          have : k ≠ n := fun q => e (by rw [hk, q])
          omega)
        omega
    · rw [if_neg c]
      have c' : ¬ (gTop g n).toInt < (g (some n)).toInt := fun q => c (Int32.lt_iff_toInt_lt.mpr q)
      by_cases e : t = some n
      · rw [e]; omega
      · exact ih t (fun k hk => by
          have := h k hk
          have : k ≠ n := fun q => e (by rw [hk, q])
          omega)
/-- a hand's greatest grip -/
def gMax (W : zLw) (jT hT tT : Nat → Int32) (nt tb : Nat) (r : Nat → Int32) (h : Nat) : Int32 := gTop (fun t => gripM W jT hT tT r h t tb) nt
def byTry (W : zLw) (jT hT tT : Nat → Int32) (nh nt tb : Nat) (r : Nat → Int32) : Prop := ∃ h, h < nh ∧ ¬ gMax W jT hT tT nt tb r h < holdM r tb
theorem gMax_cg {r q : Nat → Int32} {h : Nat} (e1 : r (28 + 2 * h) = q (28 + 2 * h)) (e2 : r (28 + 2 * h + 1) = q (28 + 2 * h + 1)) (e3 : r (7 * tb + 2) = q (7 * tb + 2)) : gMax W jT hT tT nt tb r h = gMax W jT hT tT nt tb q h := by
  unfold gMax
  congr 1
  funext t
  unfold gripM
  rw [e1, e2, e3]
theorem gMax_bd {r : Nat → Int32} {h : Nat} : bd (gMax W jT hT tT nt tb r h) 0 999 := by
  obtain ⟨t, -, h2⟩ := gTop_at (fun t => gripM W jT hT tT r h t tb) nt
  unfold gMax
  rw [h2]
  exact gripM_bd
/-- a try that opens it, with a tool or without -/
theorem byTry_iff {r : Nat → Int32} : byTry W jT hT tT nh nt tb r ↔ ∃ h t, h < nh ∧ (∀ k, t = some k → k < nt) ∧ ¬ gripM W jT hT tT r h t tb < holdM r tb := by
  constructor
  · rintro ⟨h, h1, h2⟩
    obtain ⟨t, t1, t2⟩ := gTop_at (fun t => gripM W jT hT tT r h t tb) nt
    unfold gMax at h2
    rw [t2] at h2
    exact ⟨h, t, h1, t1, h2⟩
  · rintro ⟨h, t, h1, t1, h2⟩
    have := gTop_ge (fun t => gripM W jT hT tT r h t tb) nt t t1
    refine ⟨h, h1, fun q => h2 ?_⟩
    unfold gMax at q
    rw [Int32.lt_iff_toInt_lt] at q ⊢
    omega
theorem rest_o {n : Int32} {r : Nat → Int32} {k : Nat} (hk : k < 28) (hk3 : ∀ j, j < 4 → k ≠ 7 * j + 3) : ∀ j h, j ≤ 4 → h ≤ 6 → restM hT j h n r k = r k := by
  have e1 : ∀ j, j ≤ 4 → restJ n j r k = r k := by
    intro j
    induction j with
    | zero => intro _; rfl
    | succ j ih => intro hj; unfold restJ; rw [um_ne (hk3 j (by omega))]; exact ih (by omega)
  have e2 : ∀ (q : Nat → Int32) h, h ≤ 6 → restH hT n h q k = q k := by
    intro q h
    induction h with
    | zero => intro _; rfl
    | succ h ih => intro hj; unfold restH; rw [um_ne (by omega), um_ne (by omega)]; exact ih (by omega)
  intro j h hj hh
  unfold restM
  rw [um_ne (by omega), e2 _ h hh, e1 j hj]
/-- no other act opens it -/
theorem act_o5 {c : Nat} {r : Nat → Int32} (hb : tb < 4) (n4 : nj ≤ 4) (n6 : nh ≤ 6) (hc : canN nh nt c) (h100 : c < 100) : actM loC W jT hT tT nj nh tb c r (7 * tb + 5) = r (7 * tb + 5) := by
  unfold actM
  rcases hc with h | h | h
  · rcases (show c = 0 ∨ c = 1 ∨ c = 2 ∨ c = 3 ∨ c = 4 by omega) with rfl | rfl | rfl | rfl | rfl
    · show tapM tb r _ = _
      unfold tapM
      rw [um_ne (by omega), um_ne (by omega)]
    · show knockM tb r _ = _
      unfold knockM
      rw [um_ne (by omega), um_ne (by omega)]
    · show holeM tb r _ = _
      unfold holeM
      rw [um_ne (by omega), ru_ne (by omega), ru_ne (by omega)]
    · show warmM jT tb 10 r _ = _
      unfold warmM warm3
      split
      · rw [um_ne (by omega), um_ne (by omega), um_ne (by omega), um_ne (by omega)]
      · rw [um_ne (by omega), ru_ne (by omega), um_ne (by omega), um_ne (by omega), um_ne (by omega)]
    · show restM hT nj nh 10 r _ = _
      exact rest_o (by omega) (fun j _ => by omega) nj nh n4 n6
  · rw [if_neg (by omega), if_neg (by omega), if_neg (by omega), if_neg (by omega), if_neg (by omega), if_pos (by omega)]
    unfold dryM
    rw [um_ne (by omega), ru_ne (by omega)]
  · omega
theorem act_try {h t : Nat} {r : Nat → Int32} (ht : t < 10) : actM loC W jT hT tT nj nh tb (100 + 10 * h + t) r = tryM loC hT tb h (gripM W jT hT tT r h (toolO t) tb) r := by
  unfold actM
  rw [if_neg (by omega), if_neg (by omega), if_neg (by omega), if_neg (by omega), if_neg (by omega), if_neg (by omega), show (100 + 10 * h + t - 100) / 10 = h by omega, show (100 + 10 * h + t - 100) % 10 = t by omega]
theorem tire_o {h k : Nat} {r : Nat → Int32} (h1 : k ≠ 28 + 2 * h) (h2 : k ≠ 65) : tireM hT h r k = r k := by
  unfold tireM
  rw [um_ne h2, um_ne h1]
theorem try_5 {h : Nat} {g : Int32} {r : Nat → Int32} (hb : tb < 4) (hh : h < 6) (h0 : ¬ r (7 * tb + 5) = 1) : tryM loC hT tb h g r (7 * tb + 5) = 1 ↔ ¬ g < holdM r tb := by
  unfold tryM
  by_cases c : g < holdM r tb
  · rw [if_pos c, tire_o (by omega) (by omega)]
    unfold looseM
    rw [um_ne (by unfold loC; omega), um_ne (by omega)]
    exact ⟨fun q => absurd q h0, fun q => absurd c q⟩
  · rw [if_neg c, tire_o (by omega) (by omega), ru_at]
    exact ⟨fun _ => c, fun _ => rfl⟩
theorem try_6 {h : Nat} {g : Int32} {r : Nat → Int32} (hb : tb < 4) (hh : h < 6) : tryM loC hT tb h g r (7 * tb + 6) = r (7 * tb + 6) := by
  unfold tryM
  by_cases c : g < holdM r tb
  · rw [if_pos c, tire_o (by omega) (by omega)]
    unfold looseM
    rw [um_ne (by unfold loC; omega), um_ne (by omega)]
  · rw [if_neg c, tire_o (by omega) (by omega), ru_ne (by omega)]
/-- tries that do not open it: the places that count -/
theorem try_at {h k : Nat} {g : Int32} {r : Nat → Int32} (hb : tb < 4) (hh : h < 6) (hg : g < holdM r tb) (hk : k < 40) : tryM loC hT tb h g r k = if k = 28 + 2 * h then m0 (r k - hT (5 * h + 3)) else if k = 7 * tb + 1 then m0 (r k - g / 10) else r k := by
  unfold tryM
  rw [if_pos hg]
  have l : ∀ k, k < 40 → looseM loC tb h g r k = if k = 7 * tb + 1 then m0 (r k - g / 10) else r k := fun k hk => by
    unfold looseM
    rw [um_ne (by unfold loC; omega)]
    by_cases c : k = 7 * tb + 1
    · rw [c, um_at, if_pos rfl]
    · rw [um_ne c, if_neg c]
  unfold tireM
  rw [um_ne (by omega)]
  by_cases c : k = 28 + 2 * h
  · rw [if_pos c, c, um_at, l _ (by omega), if_neg (by omega)]
  · rw [if_neg c, um_ne c, l _ hk]
theorem hold_ti {r : Nat → Int32} (R : RowOk jT nj M r) (hb : tb < 4) : (holdM r tb).toInt = (r (7 * tb)).toInt + (r (7 * tb + 1)).toInt + 2 * (r (7 * tb + 2)).toInt := by
  obtain ⟨a0, a1, a2, -⟩ := R.2.1 tb hb
  unfold bd at a0 a1 a2
  have e2 : (2 : Int32).toInt = 2 := by decide
  unfold holdM
  have m : (2 * r (7 * tb + 2)).toInt = 2 * (r (7 * tb + 2)).toInt := by rw [ti_mul (by rw [e2]; omega), e2]
  have s : (r (7 * tb) + r (7 * tb + 1)).toInt = (r (7 * tb)).toInt + (r (7 * tb + 1)).toInt := ti_add (by omega)
  rw [ti_add (by omega), s, m]
/-- of a hand's tries that do not open it the one with the greatest grip leaves the least hold -/
theorem byTry_mono {h : Nat} {g g' : Int32} {r : Nat → Int32} {hT' jR : Nat → Int32} (R : RowOk jR nj M r) (hM : M < 950000) (hb : tb < 4) (n6 : nh ≤ 6) (hh : h < 6) (h3 : 0 ≤ (hT (5 * h + 3)).toInt) (hg0 : 0 ≤ g.toInt) (hgg : g.toInt ≤ g'.toInt) (hg' : g' < holdM r tb) (H : byTry W jT hT' tT nh nt tb (tryM loC hT tb h g r)) : byTry W jT hT' tT nh nt tb (tryM loC hT tb h g' r) := by
  have hg : g < holdM r tb := by
    rw [Int32.lt_iff_toInt_lt] at hg' ⊢
    omega
  have lo : 40 ≤ loC tb h ∧ loC tb h < 64 := by unfold loC; omega
  have R1 := R.tri (lo := loC) (by omega) hb hh lo h3 hg0
  have R2 := R.tri (lo := loC) (by omega) hb hh lo h3 (show 0 ≤ g'.toInt by omega)
  obtain ⟨k, k1, k2⟩ := H
  refine ⟨k, k1, fun q => k2 ?_⟩
  have e : ∀ j, j < 40 → j ≠ 7 * tb + 1 → tryM loC hT tb h g r j = tryM loC hT tb h g' r j := fun j j1 j2 => by
    rw [try_at hb hh hg j1, try_at hb hh hg' j1, if_neg j2, if_neg j2]
  rw [gMax_cg (e _ (by omega) (by omega)) (e _ (by omega) (by omega)) (e _ (by omega) (by omega))]
  rw [Int32.lt_iff_toInt_lt, hold_ti R1 hb]
  rw [Int32.lt_iff_toInt_lt, hold_ti R2 hb] at q
  rw [e (7 * tb) (by omega) (by omega), e (7 * tb + 2) (by omega) (by omega)]
  have s : (tryM loC hT tb h g' r (7 * tb + 1)).toInt ≤ (tryM loC hT tb h g r (7 * tb + 1)).toInt := by
    rw [try_at (g := g) hb hh hg (by omega), try_at (g := g') hb hh hg' (by omega), if_neg (by omega), if_pos rfl, if_neg (by omega), if_pos rfl, ti_m0, ti_m0]
    have a1 := (R.2.1 tb hb).2.1
    unfold bd at a1
    have d1 := ti_10 hg0
    have d2 := ti_10 (show 0 ≤ g'.toInt by omega)
    have l1 : g'.toInt < 1000000 := by
      have := Int32.lt_iff_toInt_lt.mp hg'
      rw [hold_ti R hb] at this
      have b0 := (R.2.1 tb hb).1
      have b2 := (R.2.1 tb hb).2.2.1
      unfold bd at b0 b2
      omega
    rw [ti_sub (by omega), ti_sub (by omega), d1, d2]
    split <;> split <;> omega
  omega
end SA
