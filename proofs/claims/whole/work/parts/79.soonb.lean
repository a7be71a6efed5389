/-! soonest: rows that are alike. -/
section SH
variable {W : zLw} {jT hT tT : Nat → Int32} {nj nh nt tb : Nat} {A : zS} {r q : Nat → Int32}
def E66 (r q : Nat → Int32) : Prop := ∀ k, k < 66 → r k = q k
theorem E66.wr (H : E66 r q) (j : Nat) {x y : Int32} (e : x = y) : E66 (ru r j x) (ru q j y) := fun k hk => by
  unfold ru
  rw [e, H k hk]
theorem E66.md (H : E66 r q) {j : Nat} (hj : j < 66) (F : Int32 → Int32) : E66 (um r j F) (um q j F) := H.wr j (by rw [H j hj])
theorem E66.hold (H : E66 r q) (hb : tb < 4) : holdM r tb = holdM q tb := by
  unfold holdM
  rw [H _ (by omega), H _ (by omega), H _ (by omega)]
theorem E66.tire (H : E66 r q) {h : Nat} (hh : h < 6) : E66 (tireM hT h r) (tireM hT h q) := (H.md (by omega) _).md (by omega) _
theorem E66.tri (H : E66 r q) {h : Nat} (hb : tb < 4) (hh : h < 6) (g : Int32) : E66 (tryM loC hT tb h g r) (tryM loC hT tb h g q) := by
  unfold tryM
  rw [H.hold hb]
  by_cases c : g < holdM q tb
  · rw [if_pos c, if_pos c]
    refine E66.tire ?_ hh
    unfold looseM
    rw [H (7 * tb + 1) (by omega)]
    exact (H.md (by omega) _).md (by unfold loC; omega) _
  · rw [if_neg c, if_neg c]
    exact (H.wr _ rfl).tire hh
theorem E66.warm (H : E66 r q) (hb : tb < 4) (n : Int32) : E66 (warmM jT tb n r) (warmM jT tb n q) := by
  unfold warmM
  have w3 : E66 (warm3 tb n r) (warm3 tb n q) := ((H.md (by omega) _).md (by omega) _).md (by omega) _
  rw [H (7 * tb + 3) (by omega)]
  split
  · exact w3.md (by omega) _
  · exact (w3.wr _ rfl).md (by omega) _
theorem E66.rsJ (H : E66 r q) (n : Int32) : ∀ j, j ≤ 4 → E66 (restJ n j r) (restJ n j q)
  | 0, _ => H
  | j + 1, h => (E66.rsJ H n j (by omega)).md (by omega) _
theorem E66.rsH (H : E66 r q) (n : Int32) : ∀ h, h ≤ 6 → E66 (restH hT n h r) (restH hT n h q)
  | 0, _ => H
  | j + 1, h => ((E66.rsH H n j (by omega)).md (by omega) _).md (by omega) _
theorem E66.grip (H : E66 r q) {h : Nat} {t : Option Nat} (hb : tb < 4) (hh : h < 6) : gripM W jT hT tT r h t tb = gripM W jT hT tT q h t tb := by
  unfold gripM
  rw [H _ (by omega), H _ (by omega), H _ (by omega)]
theorem E66.act (H : E66 r q) {c : Nat} (hb : tb < 4) (n4 : nj ≤ 4) (n6 : nh ≤ 6) (hc : canN nh nt c) : E66 (actM loC W jT hT tT nj nh tb c r) (actM loC W jT hT tT nj nh tb c q) := by
  unfold actM
  rcases hc with h | h | h
  · rcases (show c = 0 ∨ c = 1 ∨ c = 2 ∨ c = 3 ∨ c = 4 by omega) with rfl | rfl | rfl | rfl | rfl
    · show E66 (tapM tb r) (tapM tb q)
      exact (H.md (by omega) _).md (by omega) _
    · show E66 (knockM tb r) (knockM tb q)
      exact (H.md (by omega) _).md (by omega) _
    · show E66 (holeM tb r) (holeM tb q)
      exact ((H.wr _ rfl).wr _ rfl).md (by omega) _
    · show E66 (warmM jT tb 10 r) (warmM jT tb 10 q)
      exact H.warm hb 10
    · show E66 (restM hT nj nh 10 r) (restM hT nj nh 10 q)
      exact ((H.rsJ 10 nj n4).rsH 10 nh n6).md (by omega) _
  · rw [if_neg (by omega), if_neg (by omega), if_neg (by omega), if_neg (by omega), if_neg (by omega), if_pos (by omega), if_neg (by omega), if_neg (by omega), if_neg (by omega), if_neg (by omega), if_neg (by omega), if_pos (by omega)]
    exact (H.wr _ rfl).md (by omega) _
  · rw [if_neg (by omega), if_neg (by omega), if_neg (by omega), if_neg (by omega), if_neg (by omega), if_neg (by omega), if_neg (by omega), if_neg (by omega), if_neg (by omega), if_neg (by omega), if_neg (by omega), if_neg (by omega), H.grip hb (by omega)]
    exact H.tri hb (by omega) _
theorem E66.gm (H : E66 r q) {h : Nat} (hb : tb < 4) (hh : h < 6) : gMax W jT hT tT nt tb r h = gMax W jT hT tT nt tb q h := gMax_cg (H _ (by omega)) (H _ (by omega)) (H _ (by omega))
theorem E66.by (H : E66 r q) (hb : tb < 4) (n6 : nh ≤ 6) : byTry W jT hT tT nh nt tb r ↔ byTry W jT hT tT nh nt tb q := by
  unfold byTry
  rw [H.hold hb]
  constructor
  · rintro ⟨h, h1, h2⟩
    exact ⟨h, h1, by rw [← H.gm hb (by omega)]; exact h2⟩
  · rintro ⟨h, h1, h2⟩
    exact ⟨h, h1, by rw [H.gm hb (by omega)]; exact h2⟩
theorem E66.sy (H : E66 r q) : E66 q r := fun k hk => (H k hk).symm
theorem E66.tr {p : Nat → Int32} (H : E66 r q) (H2 : E66 q p) : E66 r p := fun k hk => (H k hk).trans (H2 k hk)
/-- the numbers that a grip asks -/
def RB (tb : Nat) (r : Nat → Int32) : Prop := (∀ h, h < 6 → bd (r (28 + 2 * h)) 0 99 ∧ bd (r (28 + 2 * h + 1)) 0 9) ∧ bd (r (7 * tb + 2)) 0 9
theorem RB.of {M : Nat} (R : RowOk jT nj M r) (hb : tb < 4) : RB tb r := ⟨R.2.2.1, (R.2.1 tb hb).2.2.1⟩
theorem RB.cg (R : RB tb r) (H : E66 r q) (hb : tb < 4) : RB tb q := ⟨fun h hh => by rw [← H _ (by omega), ← H _ (by omega)]; exact R.1 h hh, by rw [← H _ (by omega)]; exact R.2⟩
variable {T : Nat → Int32}
theorem c_byTry {o : Nat} (ho : o = 31 ∨ o = 33) (C : Cx W nj nh nt tb T A) (h64 : A.1 (o + 1) 64 = Int32.ofNat tb) (hb : tb < 4) (n6 : nh ≤ 6) (n44 : nt ≤ 4) (hr : RB tb (A.1 (o + 1))) :
    ∃ v A', f_X8_opensByTry o A = some (v, A') ∧ ((v = 1 ∧ byTry W T (fun k => T (24 + k)) (fun k => T (54 + k)) nh nt tb (A.1 (o + 1))) ∨ (v = 0 ∧ ¬ byTry W T (fun k => T (24 + k)) (fun k => T (54 + k)) nh nt tb (A.1 (o + 1)))) ∧ sG A A' ∧ Cx W nj nh nt tb T A' := by
  obtain ⟨r, er⟩ : ∃ r, r = A.1 (o + 1) := ⟨_, rfl⟩
  have L : ∀ (m h f : Nat) (A : zS), h + m = nh → m < f → Cx W nj nh nt tb T A → A.1 (o + 1) = r → ∃ v A', f_X8_opensByTry_L11 o (fun (q14 : Int32) (S13 : zS) => some (0, S13)) (holdM r tb) f (Int32.ofNat h) A = some (v, A') ∧ ((v = 1 ∧ byTry W T (fun k => T (24 + k)) (fun k => T (54 + k)) nh nt tb r) ∨ (v = 0 ∧ ∀ k, h ≤ k → k < nh → gMax W T (fun k => T (24 + k)) (fun k => T (54 + k)) nt tb r k < holdM r tb)) ∧ sG A A' ∧ Cx W nj nh nt tb T A' := by
    intro m
    induction m with
    | zero =>
      intro h f A hi hf C e
      obtain ⟨f, rfl⟩ : ∃ g, f = g + 1 := ⟨f - 1, by omega⟩
      have hi : h = nh := by omega
      subst hi
      refine ⟨0, A, ?_, Or.inr ⟨rfl, fun k q1 q2 => by omega⟩, sG.rfl' A, C⟩
      unfold f_X8_opensByTry_L11
      rw [C.2.2.1, if_pos (Int32.le_refl _)]
    | succ m ih =>
      intro h f A hi hf C e
      obtain ⟨f, rfl⟩ : ∃ g, f = g + 1 := ⟨f - 1, by omega⟩
      obtain ⟨A1, g1, g2, g3⟩ := c_greatest (h := h) C ho (by rw [e, er]; exact h64) hb (by omega) n44 (by rw [e, er]; exact (hr.1 h (by omega)).1) (by rw [e, er]; exact (hr.1 h (by omega)).2) (by rw [e, er]; exact hr.2)
      rw [e] at g1
      unfold f_X8_opensByTry_L11
      rw [C.2.2.1, if_neg (show ¬ Int32.ofNat nh ≤ Int32.ofNat h from fun q => by have := (io_le (by omega) (by omega)).mp q; omega), g1, zbE]
      by_cases c : gMax W T (fun k => T (24 + k)) (fun k => T (54 + k)) nt tb r h < holdM r tb
      · rw [if_pos c, zlE, io_sc]
        obtain ⟨v, A2, x1, x2, x3, x4⟩ := ih (h + 1) f A1 (by omega) (by omega) g3 (by rw [g2.2 _ (by omega) (by omega) (by omega) (by omega) (by omega)]; exact e)
        refine ⟨v, A2, x1, x2.imp id (fun q => ⟨q.1, fun k k1 k2 => ?_⟩), g2.tr x3, x4⟩
        by_cases ek : k = h
        · rw [ek]; exact c
        · exact q.2 k (by omega) k2
      · rw [if_neg c]
        exact ⟨1, A1, rfl, Or.inl ⟨rfl, h, by omega, c⟩, g2, g3⟩
  unfold f_X8_opensByTry
  rw [c_onTable h64, zbE, c_hold hb, zbE, ← er]
  obtain ⟨v, A', x1, x2, x3, x4⟩ := L nh 0 zN A (by omega) (by unfold zN; omega) C er.symm
  refine ⟨v, A', x1, x2.imp id (fun q => ⟨q.1, ?_⟩), x3, x4⟩
  rintro ⟨k, k1, k2⟩
  exact k2 (q.2 k (by omega) k1)
end SH
