/-! Rows of both sides that tell the same, and what holds of them. -/
section MD
theorem ti_add {x y : Int32} (h : -2147483648 ≤ x.toInt + y.toInt ∧ x.toInt + y.toInt < 2147483648) : (x + y).toInt = x.toInt + y.toInt := by
  rw [Int32.toInt_add]
  exact Int.bmod_eq_of_le_mul_two (by omega) (by omega)
theorem ti_sub {x y : Int32} (h : -2147483648 ≤ x.toInt - y.toInt ∧ x.toInt - y.toInt < 2147483648) : (x - y).toInt = x.toInt - y.toInt := by
  rw [Int32.toInt_sub]
  exact Int.bmod_eq_of_le_mul_two (by omega) (by omega)
theorem ti_mul {x y : Int32} (h : -2147483648 ≤ x.toInt * y.toInt ∧ x.toInt * y.toInt < 2147483648) : (x * y).toInt = x.toInt * y.toInt := by
  rw [Int32.toInt_mul]
  exact Int.bmod_eq_of_le_mul_two (by omega) (by omega)
theorem ti_nat {n : Nat} (h : n < 2147483648) : (Int32.ofNat n).toInt = n := Int32.toInt_ofNat_of_lt h
theorem ti_div {x : Int32} (h : 0 ≤ x.toInt) {n : Nat} (hn : n < 2147483648) (h1 : n ≠ 0) : (x / Int32.ofNat n).toInt = x.toInt / n := by
  rw [Int32.toInt_div_of_ne_left _ _ (fun e => by
    have : Int32.minValue.toInt = -2147483648 := by decide
    rw [e] at h
    omega), ti_nat hn, Int.tdiv_eq_ediv_of_nonneg h]
theorem ti_10 {x : Int32} (h : 0 ≤ x.toInt) : (x / 10).toInt = x.toInt / 10 := ti_div (n := 10) h (by decide) (by decide)
theorem ti_5 {x : Int32} (h : 0 ≤ x.toInt) : (x / 5).toInt = x.toInt / 5 := ti_div (n := 5) h (by decide) (by decide)
theorem ti_2 {x : Int32} (h : 0 ≤ x.toInt) : (x / 2).toInt = x.toInt / 2 := ti_div (n := 2) h (by decide) (by decide)
theorem ti_m0 (x : Int32) : (m0 x).toInt = if 0 < x.toInt then x.toInt else 0 := by
  have h0 : (0 : Int32).toInt = 0 := by decide
  unfold m0
  by_cases h : 0 < x
  · rw [if_pos h, if_pos]
    rw [Int32.lt_iff_toInt_lt, h0] at h
    exact h
  · rw [if_neg h, if_neg, h0]
    rw [Int32.lt_iff_toInt_lt, h0] at h
    exact h
theorem ti_0 : (0 : Int32).toInt = 0 := by decide
theorem ti_1 : (1 : Int32).toInt = 1 := by decide
theorem ti_n1 : (-1 : Int32).toInt = -1 := by decide
theorem ti_inj {x y : Int32} (h : x.toInt = y.toInt) : x = y := Int32.toInt_inj.mp h
theorem ti_ofn {x : Int32} {n : Nat} (h : x.toInt = n) : x = Int32.ofNat n := by
  have h2 := x.toInt_lt
  exact ti_inj (by rw [ti_nat (by omega)]; exact h)
def bd (x : Int32) (a b : Int) : Prop := a ≤ x.toInt ∧ x.toInt ≤ b
def RelRow (r q : Nat → Int32) : Prop := (∀ k, k < 40 → r k = q k) ∧ (∀ j h, j < 4 → h < 6 → r (loC j h) = q (loR j h)) ∧ r 64 = q 64 ∧ r 65 = q 65
section RR
variable {r q : Nat → Int32}
theorem RelRow.pl (H : RelRow r q) {k : Nat} (hk : k < 40 ∨ k = 64 ∨ k = 65) : r k = q k := by
  rcases hk with h | h | h
  · exact H.1 k h
  · rw [h]; exact H.2.2.1
  · rw [h]; exact H.2.2.2
theorem RelRow.wr (H : RelRow r q) {k : Nat} (hk : k < 40 ∨ k = 64 ∨ k = 65) {x y : Int32} (e : x = y) : RelRow (ru r k x) (ru q k y) := by
  subst e
  have g : ∀ i, i < 40 ∨ i = 64 ∨ i = 65 → ru r k x i = ru q k x i := fun i hi => by
    by_cases h : i = k
    · rw [h, ru_at, ru_at]
    · rw [ru_ne h, ru_ne h, H.pl hi]
  refine ⟨fun i hi => g i (Or.inl hi), fun j h hj hh => ?_, g 64 (by omega), g 65 (by omega)⟩
  rw [ru_ne (by unfold loC; omega), ru_ne (by unfold loR; omega)]
  exact H.2.1 j h hj hh
theorem RelRow.md (H : RelRow r q) {k : Nat} (hk : k < 40 ∨ k = 64 ∨ k = 65) (F : Int32 → Int32) : RelRow (um r k F) (um q k F) := H.wr hk (by rw [H.pl hk])
theorem RelRow.rl (H : RelRow r q) {j h : Nat} (hj : j < 4) (hh : h < 6) {x y : Int32} (e : x = y) : RelRow (ru r (loC j h) x) (ru q (loR j h) y) := by
  subst e
  have g : ∀ i, i < 40 ∨ i = 64 ∨ i = 65 → ru r (loC j h) x i = ru q (loR j h) x i := fun i hi => by
    rw [ru_ne (by unfold loC; omega), ru_ne (by unfold loR; omega), H.pl hi]
  refine ⟨fun i hi => g i (Or.inl hi), fun j' h' hj' hh' => ?_, g 64 (by omega), g 65 (by omega)⟩
  by_cases e : j' = j ∧ h' = h
  · rw [e.1, e.2, ru_at, ru_at]
  · rw [ru_ne (by unfold loC; omega), ru_ne (by unfold loR; omega)]
    exact H.2.1 j' h' hj' hh'
theorem RelRow.ul (H : RelRow r q) {j h : Nat} (hj : j < 4) (hh : h < 6) {F G : Int32 → Int32} (e : F = G) : RelRow (um r (loC j h) F) (um q (loR j h) G) := H.rl hj hh (by rw [H.2.1 j h hj hh, e])
theorem RelRow.hold (H : RelRow r q) {j : Nat} (hj : j < 4) : holdM r j = holdM q j := by
  unfold holdM
  rw [H.pl (k := 7 * j) (by omega), H.pl (k := 7 * j + 1) (by omega), H.pl (k := 7 * j + 2) (by omega)]
variable {tb h nj nh : Nat} {hT jT : Nat → Int32}
theorem RelRow.tire (H : RelRow r q) (hh : h < 6) : RelRow (tireM hT h r) (tireM hT h q) := (H.md (by omega) _).md (by omega) _
theorem RelRow.loose (H : RelRow r q) (hb : tb < 4) (hh : h < 6) (g : Int32) : RelRow (looseM loC tb h g r) (looseM loR tb h g q) :=
  (H.md (by omega) _).ul hb hh (by rw [H.pl (k := 7 * tb + 1) (by omega)])
theorem RelRow.tri (H : RelRow r q) (hb : tb < 4) (hh : h < 6) (g : Int32) : RelRow (tryM loC hT tb h g r) (tryM loR hT tb h g q) := by
  unfold tryM
  rw [← H.hold hb]
  split
  · exact (H.loose hb hh g).tire hh
  · exact (H.wr (by omega) rfl).tire hh
theorem RelRow.wrong (H : RelRow r q) (hb : tb < 4) (hh : h < 6) : RelRow (wrongM hT tb h r) (wrongM hT tb h q) := (H.md (by omega) _).tire hh
theorem RelRow.warm (H : RelRow r q) (hb : tb < 4) (n : Int32) : RelRow (warmM jT tb n r) (warmM jT tb n q) := by
  unfold warmM
  rw [← H.pl (k := 7 * tb + 3) (by omega)]
  have h3 : RelRow (warm3 tb n r) (warm3 tb n q) := ((H.md (by omega) _).md (by omega) _).md (by omega) _
  split
  · exact h3.md (by omega) _
  · exact (h3.wr (by omega) rfl).md (by omega) _
theorem RelRow.chill (H : RelRow r q) (hb : tb < 4) : RelRow (chillM tb r) (chillM tb q) := (H.md (by omega) _).md (by omega) _
theorem RelRow.tap (H : RelRow r q) (hb : tb < 4) : RelRow (tapM tb r) (tapM tb q) := (H.md (by omega) _).md (by omega) _
theorem RelRow.knock (H : RelRow r q) (hb : tb < 4) : RelRow (knockM tb r) (knockM tb q) := (H.md (by omega) _).md (by omega) _
theorem RelRow.hole (H : RelRow r q) (hb : tb < 4) : RelRow (holeM tb r) (holeM tb q) := ((H.wr (by omega) rfl).wr (by omega) rfl).md (by omega) _
theorem RelRow.dry (H : RelRow r q) (hh : h < 6) : RelRow (dryM h r) (dryM h q) := (H.wr (by omega) rfl).md (by omega) _
theorem RelRow.rsJ (H : RelRow r q) (n : Int32) : ∀ j, j ≤ 4 → RelRow (restJ n j r) (restJ n j q)
  | 0, _ => H
  | j + 1, hj => (RelRow.rsJ H n j (by omega)).md (by omega) _
theorem RelRow.rsH (H : RelRow r q) (n : Int32) : ∀ h, h ≤ 6 → RelRow (restH hT n h r) (restH hT n h q)
  | 0, _ => H
  | h + 1, hj => ((RelRow.rsH H n h (by omega)).md (by omega) _).md (by omega) _
theorem RelRow.rest (H : RelRow r q) (hj : nj ≤ 4) (hh : nh ≤ 6) (n : Int32) : RelRow (restM hT nj nh n r) (restM hT nj nh n q) := ((H.rsJ n nj hj).rsH n nh hh).md (by omega) _
theorem RelRow.clL (H : RelRow r q) (hb : tb < 4) : ∀ h, h ≤ 6 → RelRow (closeL loC tb h r) (closeL loR tb h q)
  | 0, _ => H
  | h + 1, hj => (RelRow.clL H hb h (by omega)).rl hb (by omega) rfl
theorem RelRow.close (H : RelRow r q) (hb : tb < 4) (hh : h < 6) (h6 : nh ≤ 6) : RelRow (closeM loC nh tb h r) (closeM loR nh tb h q) :=
  ((((H.wr (by omega) rfl).wr (by omega) (by rw [H.pl (k := 28 + 2 * h) (by omega)])).wr (by omega) rfl).clL hb nh h6).md (by omega) _
end RR
/-- what holds of a scene's row -/
def RowOk (jT : Nat → Int32) (nj M : Nat) (r : Nat → Int32) : Prop :=
  (∃ tb, tb < 4 ∧ (nj = 0 ∨ tb < nj) ∧ r 64 = Int32.ofNat tb) ∧
  (∀ j, j < 4 → bd (r (7 * j)) 0 99 ∧ bd (r (7 * j + 1)) 0 99 ∧ bd (r (7 * j + 2)) 0 9 ∧ bd (r (7 * j + 3)) 0 159 ∧ (r (7 * j + 5) = 0 ∨ r (7 * j + 5) = 1) ∧ (r (7 * j + 6) = 0 ∨ r (7 * j + 6) = 1) ∧ (r (7 * j + 6) = 0 → j < nj → (r (7 * j + 3)).toInt ≤ (jT (6 * j + 5)).toInt)) ∧
  (∀ h, h < 6 → bd (r (28 + 2 * h)) 0 99 ∧ bd (r (28 + 2 * h + 1)) 0 9) ∧ bd (r 65) 0 M
section RO
variable {jT hT : Nat → Int32} {nj nh M : Nat} {r : Nat → Int32}
theorem RowOk.mono (H : RowOk jT nj M r) {M' : Nat} (h : M ≤ M') : RowOk jT nj M' r := ⟨H.1, H.2.1, H.2.2.1, H.2.2.2.1, by have := H.2.2.2.2; omega⟩
theorem RowOk.set (H : RowOk jT nj M r) {k : Nat} {x : Int32} (hk : k ≠ 64)
    (hj : ∀ j, j < 4 → (k = 7 * j → bd x 0 99) ∧ (k = 7 * j + 1 → bd x 0 99) ∧ (k = 7 * j + 2 → bd x 0 9) ∧ (k = 7 * j + 3 → bd x 0 159 ∧ (r (7 * j + 6) = 0 → j < nj → x.toInt ≤ (jT (6 * j + 5)).toInt)) ∧ (k = 7 * j + 5 → x = 0 ∨ x = 1) ∧ (k = 7 * j + 6 → x = 1))
    (hh : ∀ h, h < 6 → (k = 28 + 2 * h → bd x 0 99) ∧ (k = 28 + 2 * h + 1 → bd x 0 9)) (hm : k = 65 → bd x 0 M) : RowOk jT nj M (ru r k x) := by
  have g : ∀ (i : Nat) (P : Int32 → Prop), (k = i → P x) → P (r i) → P (ru r k x i) := fun i P h1 h2 => by
    by_cases e : i = k
    · subst e; rw [ru_at]; exact h1 rfl
    · rw [ru_ne e]; exact h2
  refine ⟨?_, fun j hj4 => ?_, fun h h6 => ?_, ?_⟩
  · obtain ⟨tb, h1, h2, h3⟩ := H.1
    exact ⟨tb, h1, h2, by rw [ru_ne (fun e => hk e.symm)]; exact h3⟩
  · obtain ⟨a0, a1, a2, a3, a5, a6, a7⟩ := H.2.1 j hj4
    obtain ⟨b0, b1, b2, b3, b5, b6⟩ := hj j hj4
    refine ⟨g _ (fun z => bd z 0 99) b0 a0, g _ (fun z => bd z 0 99) b1 a1, g _ (fun z => bd z 0 9) b2 a2, g _ (fun z => bd z 0 159) (fun e => (b3 e).1) a3, g _ (fun z => z = 0 ∨ z = 1) b5 a5, g _ (fun z => z = 0 ∨ z = 1) (fun e => Or.inr (b6 e)) a6, ?_⟩
    intro h1 h2
    by_cases e6 : k = 7 * j + 6
    · rw [← e6, ru_at, b6 e6] at h1
      exact absurd h1 (by decide)
    · rw [ru_ne (fun e => e6 e.symm)] at h1
      exact g _ (fun z => z.toInt ≤ (jT (6 * j + 5)).toInt) (fun e => (b3 e).2 h1 h2) (a7 h1 h2)
  · exact ⟨g _ (fun z => bd z 0 99) (hh h h6).1 (H.2.2.1 h h6).1, g _ (fun z => bd z 0 9) (hh h h6).2 (H.2.2.1 h h6).2⟩
  · exact g _ (fun z => bd z 0 M) hm H.2.2.2
theorem RowOk.vac (H : RowOk jT nj M r) {j : Nat} (hj : j < 4) {x : Int32} (hx : bd x 0 99) : RowOk jT nj M (ru r (7 * j) x) :=
  H.set (by omega) (fun i hi => ⟨fun _ => hx, fun e => absurd e (by omega), fun e => absurd e (by omega), fun e => absurd e (by omega), fun e => absurd e (by omega), fun e => absurd e (by omega)⟩) (fun i hi => ⟨fun e => absurd e (by omega), fun e => absurd e (by omega)⟩) (fun e => absurd e (by omega))
theorem RowOk.stuck (H : RowOk jT nj M r) {j : Nat} (hj : j < 4) {x : Int32} (hx : bd x 0 99) : RowOk jT nj M (ru r (7 * j + 1) x) :=
  H.set (by omega) (fun i hi => ⟨fun e => absurd e (by omega), fun _ => hx, fun e => absurd e (by omega), fun e => absurd e (by omega), fun e => absurd e (by omega), fun e => absurd e (by omega)⟩) (fun i hi => ⟨fun e => absurd e (by omega), fun e => absurd e (by omega)⟩) (fun e => absurd e (by omega))
theorem RowOk.cold (H : RowOk jT nj M r) {j : Nat} (hj : j < 4) {x : Int32} (hx : bd x 0 9) : RowOk jT nj M (ru r (7 * j + 2) x) :=
  H.set (by omega) (fun i hi => ⟨fun e => absurd e (by omega), fun e => absurd e (by omega), fun _ => hx, fun e => absurd e (by omega), fun e => absurd e (by omega), fun e => absurd e (by omega)⟩) (fun i hi => ⟨fun e => absurd e (by omega), fun e => absurd e (by omega)⟩) (fun e => absurd e (by omega))
theorem RowOk.apart (H : RowOk jT nj M r) {j : Nat} (hj : j < 4) {x : Int32} (hx : bd x 0 159) (hg : r (7 * j + 6) = 0 → j < nj → x.toInt ≤ (jT (6 * j + 5)).toInt) : RowOk jT nj M (ru r (7 * j + 3) x) :=
  H.set (by omega) (fun i hi => ⟨fun e => absurd e (by omega), fun e => absurd e (by omega), fun e => absurd e (by omega), fun e => by
    have : i = j := by omega
    subst this
    exact ⟨hx, hg⟩, fun e => absurd e (by omega), fun e => absurd e (by omega)⟩) (fun i hi => ⟨fun e => absurd e (by omega), fun e => absurd e (by omega)⟩) (fun e => absurd e (by omega))
theorem RowOk.holed (H : RowOk jT nj M r) {j : Nat} (hj : j < 4) (x : Int32) : RowOk jT nj M (ru r (7 * j + 4) x) :=
  H.set (by omega) (fun i hi => ⟨fun e => absurd e (by omega), fun e => absurd e (by omega), fun e => absurd e (by omega), fun e => absurd e (by omega), fun e => absurd e (by omega), fun e => absurd e (by omega)⟩) (fun i hi => ⟨fun e => absurd e (by omega), fun e => absurd e (by omega)⟩) (fun e => absurd e (by omega))
theorem RowOk.opn (H : RowOk jT nj M r) {j : Nat} (hj : j < 4) {x : Int32} (hx : x = 0 ∨ x = 1) : RowOk jT nj M (ru r (7 * j + 5) x) :=
  H.set (by omega) (fun i hi => ⟨fun e => absurd e (by omega), fun e => absurd e (by omega), fun e => absurd e (by omega), fun e => absurd e (by omega), fun _ => hx, fun e => absurd e (by omega)⟩) (fun i hi => ⟨fun e => absurd e (by omega), fun e => absurd e (by omega)⟩) (fun e => absurd e (by omega))
theorem RowOk.crk (H : RowOk jT nj M r) {j : Nat} (hj : j < 4) : RowOk jT nj M (ru r (7 * j + 6) 1) :=
  H.set (by omega) (fun i hi => ⟨fun e => absurd e (by omega), fun e => absurd e (by omega), fun e => absurd e (by omega), fun e => absurd e (by omega), fun e => absurd e (by omega), fun _ => rfl⟩) (fun i hi => ⟨fun e => absurd e (by omega), fun e => absurd e (by omega)⟩) (fun e => absurd e (by omega))
theorem RowOk.power (H : RowOk jT nj M r) {h : Nat} (hh : h < 6) {x : Int32} (hx : bd x 0 99) : RowOk jT nj M (ru r (28 + 2 * h) x) :=
  H.set (by omega) (fun i hi => ⟨fun e => absurd e (by omega), fun e => absurd e (by omega), fun e => absurd e (by omega), fun e => absurd e (by omega), fun e => absurd e (by omega), fun e => absurd e (by omega)⟩) (fun i hi => ⟨fun _ => hx, fun e => absurd e (by omega)⟩) (fun e => absurd e (by omega))
theorem RowOk.wet (H : RowOk jT nj M r) {h : Nat} (hh : h < 6) {x : Int32} (hx : bd x 0 9) : RowOk jT nj M (ru r (28 + 2 * h + 1) x) :=
  H.set (by omega) (fun i hi => ⟨fun e => absurd e (by omega), fun e => absurd e (by omega), fun e => absurd e (by omega), fun e => absurd e (by omega), fun e => absurd e (by omega), fun e => absurd e (by omega)⟩) (fun i hi => ⟨fun e => absurd e (by omega), fun _ => hx⟩) (fun e => absurd e (by omega))
theorem RowOk.loose (H : RowOk jT nj M r) {k : Nat} (h1 : 40 ≤ k) (h2 : k < 64) (x : Int32) : RowOk jT nj M (ru r k x) :=
  H.set (by omega) (fun i hi => ⟨fun e => absurd e (by omega), fun e => absurd e (by omega), fun e => absurd e (by omega), fun e => absurd e (by omega), fun e => absurd e (by omega), fun e => absurd e (by omega)⟩) (fun i hi => ⟨fun e => absurd e (by omega), fun e => absurd e (by omega)⟩) (fun e => absurd e (by omega))
theorem RowOk.min (H : RowOk jT nj M r) {x : Int32} {M' : Nat} (h : M ≤ M') (hx : bd x 0 M') : RowOk jT nj M' (ru r 65 x) :=
  (H.mono h).set (by omega) (fun i hi => ⟨fun e => absurd e (by omega), fun e => absurd e (by omega), fun e => absurd e (by omega), fun e => absurd e (by omega), fun e => absurd e (by omega), fun e => absurd e (by omega)⟩) (fun i hi => ⟨fun e => absurd e (by omega), fun e => absurd e (by omega)⟩) (fun _ => hx)
theorem RowOk.tick (H : RowOk jT nj M r) (hM : M < 1000000) : RowOk jT nj (M + 1) (um r 65 (fun x => x + 1)) := by
  have := H.2.2.2
  unfold bd at this
  have e := ti_1
  exact H.min (by omega) ⟨by rw [ti_add (by omega)]; omega, by rw [ti_add (by omega)]; omega⟩
theorem RowOk.tb (H : RowOk jT nj M r) : ∃ tb, tb < 4 ∧ (nj = 0 ∨ tb < nj) ∧ r 64 = Int32.ofNat tb := H.1
theorem bd_m0 {x y : Int32} {b : Int} (hx : bd x 0 b) (hy : 0 ≤ y.toInt) (hb : b ≤ 1000000) : bd (m0 (x - y)) 0 b := by
  unfold bd at hx ⊢
  have h2 := y.toInt_lt
  have e : (x - y).toInt = x.toInt - y.toInt := ti_sub (by omega)
  rw [ti_m0, e]
  split <;> omega
theorem RowOk.tire (H : RowOk jT nj M r) (hM : M < 1000000) {h : Nat} (hh : h < 6) (ht : 0 ≤ (hT (5 * h + 3)).toInt) : RowOk jT nj (M + 1) (tireM hT h r) :=
  (H.power hh (bd_m0 (H.2.2.1 h hh).1 ht (by omega))).tick hM
theorem ti_d10 {x : Int32} (h : 0 ≤ x.toInt) : 0 ≤ (x / 10).toInt := by rw [ti_10 h]; omega
theorem RowOk.tri (H : RowOk jT nj M r) (hM : M < 1000000) {lo : Nat → Nat → Nat} {tb h : Nat} (hb : tb < 4) (hh : h < 6) (hlo : 40 ≤ lo tb h ∧ lo tb h < 64) (ht : 0 ≤ (hT (5 * h + 3)).toInt) {g : Int32} (hg : 0 ≤ g.toInt) : RowOk jT nj (M + 1) (tryM lo hT tb h g r) := by
  unfold tryM
  split
  · exact ((H.stuck hb (bd_m0 (H.2.1 tb hb).2.1 (ti_d10 hg) (by omega))).loose hlo.1 hlo.2 _).tire hM hh ht
  · exact (H.opn hb (Or.inr rfl)).tire hM hh ht
theorem RowOk.wrong (H : RowOk jT nj M r) (hM : M < 1000000) {tb h : Nat} (hb : tb < 4) (hh : h < 6) (ht : 0 ≤ (hT (5 * h + 3)).toInt) : RowOk jT nj (M + 1) (wrongM hT tb h r) := by
  refine (H.stuck hb ?_).tire hM hh ht
  have := (H.2.1 tb hb).2.1
  unfold bd at this ⊢
  have e2 : (2 : Int32).toInt = 2 := by decide
  have e99 : (99 : Int32).toInt = 99 := by decide
  dsimp only
  split
  · next hc =>
    rw [Int32.lt_iff_toInt_lt, ti_add (by omega)] at hc
    rw [ti_add (by omega)]
    omega
  · rw [e99]; omega
theorem RowOk.warm (H : RowOk jT nj M r) (hM : M < 1000000) {tb : Nat} (hb : tb < 4) (hn : tb < nj) (hg : bd (jT (6 * tb + 5)) 0 99) (hc : r (7 * tb + 6) = 0) {n : Int32} (h60 : bd n 0 60) : RowOk jT nj (M + 1) (warmM jT tb n r) := by
  obtain ⟨a0, a1, a2, a3, a5, a6, a7⟩ := H.2.1 tb hb
  have a8 := a7 hc hn
  unfold bd at h60 a3 hg
  have en : (r (7 * tb + 3) + n).toInt = (r (7 * tb + 3)).toInt + n.toInt := ti_add (by omega)
  unfold warmM
  split
  · next hq =>
    rw [Int32.le_iff_toInt_le, en] at hq
    have H1 := H.apart hb (x := r (7 * tb + 3) + n) ⟨by omega, by omega⟩ (fun _ _ => by omega)
    have H2 := H1.cold hb (x := m0 (um r (7 * tb + 3) (fun x => x + n) (7 * tb + 2) - n / 10)) (bd_m0 (H1.2.1 tb hb).2.2.1 (ti_d10 h60.1) (by omega))
    have H3 := H2.stuck hb (x := m0 (um (um r (7 * tb + 3) (fun x => x + n)) (7 * tb + 2) (fun x => m0 (x - n / 10)) (7 * tb + 1) - n / 5)) (bd_m0 (H2.2.1 tb hb).2.1 (by rw [ti_5 h60.1]; omega) (by omega))
    exact H3.tick hM
  · have K : RowOk jT nj M (ru r (7 * tb + 6) 1) := H.crk hb
    have K1 := K.apart hb (x := r (7 * tb + 3) + n) ⟨by omega, by omega⟩ (fun e => by rw [ru_at] at e; exact absurd e (by decide))
    have K2 := K1.cold hb (x := m0 (um r (7 * tb + 3) (fun x => x + n) (7 * tb + 2) - n / 10)) (by
      have := a2
      rw [um_ne (by omega)]
      exact bd_m0 a2 (ti_d10 h60.1) (by omega))
    have K3 := K2.stuck hb (x := m0 (um (um r (7 * tb + 3) (fun x => x + n)) (7 * tb + 2) (fun x => m0 (x - n / 10)) (7 * tb + 1) - n / 5)) (by
      rw [um_ne (by omega), um_ne (by omega)]
      exact bd_m0 a1 (by rw [ti_5 h60.1]; omega) (by omega))
    have e : ru (ru (ru (ru r (7 * tb + 6) 1) (7 * tb + 3) (r (7 * tb + 3) + n)) (7 * tb + 2) (m0 (um r (7 * tb + 3) (fun x => x + n) (7 * tb + 2) - n / 10))) (7 * tb + 1) (m0 (um (um r (7 * tb + 3) (fun x => x + n)) (7 * tb + 2) (fun x => m0 (x - n / 10)) (7 * tb + 1) - n / 5)) = ru (warm3 tb n r) (7 * tb + 6) 1 := by
      funext k
      unfold warm3 um ru
      by_cases c1 : k = 7 * tb + 6
      · subst c1
        rw [if_neg (by omega), if_neg (by omega), if_neg (by omega), if_pos rfl, if_pos rfl]
      · rw [if_neg c1]
        simp only [c1, if_false]
    rw [e] at K3
    exact K3.tick hM
theorem RowOk.chill (H : RowOk jT nj M r) (hM : M < 1000000) {tb : Nat} (hb : tb < 4) : RowOk jT nj (M + 1) (chillM tb r) := by
  refine (H.cold hb ?_).tick hM
  have := (H.2.1 tb hb).2.2.1
  unfold bd at this ⊢
  have e3 : (3 : Int32).toInt = 3 := by decide
  have e9 : (9 : Int32).toInt = 9 := by decide
  dsimp only
  split
  · next hc =>
    rw [Int32.lt_iff_toInt_lt, ti_add (by omega)] at hc
    rw [ti_add (by omega)]
    omega
  · rw [e9]; omega
theorem RowOk.tap (H : RowOk jT nj M r) (hM : M < 1000000) {tb : Nat} (hb : tb < 4) : RowOk jT nj (M + 1) (tapM tb r) := (H.stuck hb (bd_m0 (H.2.1 tb hb).2.1 (by decide) (by omega))).tick hM
theorem RowOk.knock (H : RowOk jT nj M r) (hM : M < 1000000) {tb : Nat} (hb : tb < 4) : RowOk jT nj (M + 1) (knockM tb r) := (H.vac hb (bd_m0 (H.2.1 tb hb).1 (by decide) (by omega))).tick hM
theorem RowOk.hole (H : RowOk jT nj M r) (hM : M < 1000000) {tb : Nat} (hb : tb < 4) : RowOk jT nj (M + 1) (holeM tb r) := ((H.vac hb (x := 0) ⟨by decide, by decide⟩).holed hb 1).tick hM
theorem RowOk.dry (H : RowOk jT nj M r) (hM : M < 1000000) {h : Nat} (hh : h < 6) : RowOk jT nj (M + 1) (dryM h r) := (H.wet hh (x := 0) ⟨by decide, by decide⟩).tick hM
theorem RowOk.rsJ (H : RowOk jT nj M r) {n : Int32} (hn : bd n 0 60) : ∀ j, j ≤ 4 → RowOk jT nj M (restJ n j r)
  | 0, _ => H
  | j + 1, hj => by
    have K := RowOk.rsJ H hn j (by omega)
    have e2 : (2 : Int32).toInt = 2 := by decide
    unfold bd at hn
    have e : (2 * n).toInt = 2 * n.toInt := by rw [ti_mul (by rw [e2]; omega), e2]
    have b := bd_m0 (y := 2 * n) (K.2.1 j (by omega)).2.2.2.1 (by omega) (by omega)
    refine K.apart (by omega) b (fun h1 h2 => ?_)
    have k7 := (K.2.1 j (by omega)).2.2.2.2.2.2 h1 h2
    have k3 := (K.2.1 j (by omega)).2.2.2.1
    unfold bd at k3
    have e3 : (restJ n j r (7 * j + 3) - 2 * n).toInt = (restJ n j r (7 * j + 3)).toInt - 2 * n.toInt := by rw [ti_sub (by omega), e]
    rw [ti_m0, e3]
    split <;> omega
theorem RowOk.rsH (H : RowOk jT nj M r) {n : Int32} (hn : bd n 0 60) (ht : ∀ h, h < nh → bd (hT (5 * h)) 0 99) : ∀ h, h ≤ 6 → h ≤ nh → RowOk jT nj M (restH hT n h r)
  | 0, _, _ => H
  | h + 1, hj, hh => by
    have K := RowOk.rsH H hn ht h (by omega) (by omega)
    have t := ht h (by omega)
    have b := (K.2.2.1 h (by omega)).1
    have K1 := K.power (h := h) (by omega) (x := if restH hT n h r (28 + 2 * h) + n < hT (5 * h) then restH hT n h r (28 + 2 * h) + n else hT (5 * h)) (by
      unfold bd at hn b ⊢
      split
      · next hc =>
        unfold bd at t
        rw [Int32.lt_iff_toInt_lt, ti_add (by omega)] at hc
        rw [ti_add (by omega)]
        omega
      · exact t)
    exact K1.wet (by omega) (bd_m0 (K1.2.2.1 h (by omega)).2 (ti_d10 hn.1) (by omega))
theorem RowOk.rest (H : RowOk jT nj M r) (hM : M < 1000000) {n : Int32} (hn : bd n 0 60) (h4 : nj ≤ 4) (h6 : nh ≤ 6) (ht : ∀ h, h < nh → bd (hT (5 * h)) 0 99) : RowOk jT nj (M + 60) (restM hT nj nh n r) := by
  have K := (H.rsJ hn nj h4).rsH hn ht nh h6 (Nat.le_refl _)
  have b := K.2.2.2
  unfold bd at b hn
  exact K.min (by omega) ⟨by rw [ti_add (by omega)]; omega, by rw [ti_add (by omega)]; omega⟩
theorem RowOk.clL (H : RowOk jT nj M r) {lo : Nat → Nat → Nat} {tb : Nat} (hlo : ∀ h, h < 6 → 40 ≤ lo tb h ∧ lo tb h < 64) : ∀ h, h ≤ 6 → RowOk jT nj M (closeL lo tb h r)
  | 0, _ => H
  | h + 1, hj => (RowOk.clL H hlo h (by omega)).loose (hlo h (by omega)).1 (hlo h (by omega)).2 0
theorem RowOk.close (H : RowOk jT nj M r) (hM : M < 1000000) {lo : Nat → Nat → Nat} {tb h : Nat} (hlo : ∀ h, h < 6 → 40 ≤ lo tb h ∧ lo tb h < 64) (hb : tb < 4) (hh : h < 6) (h6 : nh ≤ 6) : RowOk jT nj (M + 1) (closeM lo nh tb h r) := by
  have p := (H.2.2.1 h hh).1
  unfold bd at p
  have K := ((H.opn hb (x := 0) (Or.inl rfl)).stuck hb (x := r (28 + 2 * h) / 2) ⟨by rw [ti_2 p.1]; omega, by rw [ti_2 p.1]; omega⟩).vac hb (x := 0) ⟨by decide, by decide⟩
  exact (K.clL hlo nh h6).tick hM
theorem RowOk.table (H : RowOk jT nj M r) {j : Nat} (hj : j < nj) (h4 : nj ≤ 4) : RowOk jT nj M (ru r 64 (Int32.ofNat j)) := by
  refine ⟨⟨j, by omega, Or.inr hj, ru_at _ _ _⟩, fun i hi => ?_, fun h hh => ?_, ?_⟩
  · rw [ru_ne (by omega), ru_ne (by omega), ru_ne (by omega), ru_ne (by omega), ru_ne (by omega), ru_ne (by omega)]
    exact H.2.1 i hi
  · rw [ru_ne (by omega), ru_ne (by omega)]
    exact H.2.2.1 h hh
  · rw [ru_ne (by omega)]
    exact H.2.2.2
/-- the reference's way of a try -/
theorem tryR_eq (H : RowOk jT nj M r) {tb h : Nat} (hb : tb < 4) {g : Int32} (hg : 0 ≤ g.toInt) : tryR hT tb h g r = tryM loR hT tb h g r := by
  have s := (H.2.1 tb hb).2.1
  unfold bd at s
  have e10 := ti_10 hg
  have h2 := g.toInt_lt
  have e0 : (r (7 * tb + 1) - g / 10).toInt = (r (7 * tb + 1)).toInt - g.toInt / 10 := by rw [ti_sub (by omega), e10]
  have k1 : r (7 * tb + 1) - (if g / 10 < r (7 * tb + 1) then g / 10 else r (7 * tb + 1)) = m0 (r (7 * tb + 1) - g / 10) := by
    apply ti_inj
    rw [ti_m0, e0]
    split
    · next hc => rw [Int32.lt_iff_toInt_lt, e10] at hc; rw [e0, if_pos (by omega)]
    · next hc => rw [Int32.lt_iff_toInt_lt, e10] at hc; rw [ti_sub (by omega), if_neg (by omega)]; omega
  have k2 : (if g / 10 < r (7 * tb + 1) then g / 10 else r (7 * tb + 1)) = r (7 * tb + 1) - m0 (r (7 * tb + 1) - g / 10) := by
    have e1 : (m0 (r (7 * tb + 1) - g / 10)).toInt = if 0 < (r (7 * tb + 1)).toInt - g.toInt / 10 then (r (7 * tb + 1)).toInt - g.toInt / 10 else 0 := by rw [ti_m0, e0]
    apply ti_inj
    rw [ti_sub (by rw [e1]; split <;> omega), e1]
    split
    · next hc => rw [Int32.lt_iff_toInt_lt, e10] at hc; rw [e10, if_pos (by omega)]; omega
    · next hc => rw [Int32.lt_iff_toInt_lt, e10] at hc; rw [if_neg (by omega)]; omega
  unfold tryR tryM looseR looseM um
  dsimp only
  rw [k1, k2]
end RO
end MD
