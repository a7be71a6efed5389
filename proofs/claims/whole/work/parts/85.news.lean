/-! the state behind the constructors. -/
section NC
variable {h : Nat → va_E}
def nwS (h : Nat → va_E) (n : Nat) : zS := (hV h, hK h, fun _ => 0, n)
theorem veq_ok {v w : Value} (q : veq v w = true) : v = w := by
  cases v <;> cases w <;> first | rfl | (cases q; done) | exact congrArg Value.ref (eq_of_beq q)
theorem fseq_ok {a n ci : Nat} {fs : List Value} (e : h a = .inr (ci, fs)) : ∀ (l : List (Nat × Value)) (vs : List Value) (j : Nat), fseq l vs = true → (∀ k, vs[k]? = fs[j + k]?) → vs = zfs (nwS h n) a j l
  | [], [], _, _, _ => rfl
  | [], _ :: _, _, q, _ => by cases q
  | _ :: _, [], _, q, _ => by cases q
  | fd :: l, v :: vs, j, q, g => by
    have q : (feq fd v && fseq l vs) = true := q
    rw [Bool.and_eq_true] at q
    have g0 : fs[j]? = some v := (g 0).symm
    have ev : v = zfv (nwS h n) a j fd := by
      have hk : (nwS h n).2.1 a j = v := by
        show hK h a j = v
        unfold hK
        rw [e]
        dsimp only
        rw [g0]
        rfl
      have q1 := q.1
      unfold feq at q1
      unfold zfv
      by_cases c0 : fd.1 = 0
      · rw [if_pos c0] at q1 ⊢
        cases v with
        | int x =>
          have : (nwS h n).1 a j = x := by
            show hV h a j = x
            unfold hV
            rw [e]
            dsimp only
            rw [g0]
          rw [this]
        | _ => cases q1
      · rw [if_neg c0] at q1 ⊢
        by_cases c1 : fd.1 = 1
        · rw [if_pos c1] at q1 ⊢
          exact (veq_ok q1).symm
        · rw [if_neg c1, hk]
    show v :: vs = zfv (nwS h n) a j fd :: zfs (nwS h n) a (j + 1) l
    rw [← ev, ← fseq_ok e l vs (j + 1) q.2 (fun k => by
      have := g (k + 1)
      rw [show j + 1 + k = j + (k + 1) by omega]
      exact this)]
theorem ceq_ok {a n : Nat} {e : zD} (q : ceq e (h a) = true) : h a = zen (nwS h n) a e := by
  unfold ceq at q
  unfold zen
  split at q
  · next ci fs e1 =>
    rw [Bool.and_eq_true] at q
    have c := of_decide_eq_true q.1
    rw [if_pos (by omega), e1, c, Nat.add_sub_cancel_left, ← fseq_ok e1 e.2.2 fs 0 q.2 (fun k => by rw [Nat.zero_add])]
  · next N f e1 =>
    have c := of_decide_eq_true q
    rw [if_neg (by omega), if_pos c.1, e1, c.2]
    congr
    funext j
    show f j = zrf (hK h a j)
    unfold hK
    rw [e1]
    dsimp only
    cases f j <;> rfl
  · next k N f e1 =>
    have c := of_decide_eq_true q
    have c4 : e.1 < 4 := by rw [c.1]; exact c.2.2
    rw [if_neg (by omega), if_neg (by omega), if_neg (by omega), e1, c.1, c.2.1]
    congr
    funext j
    show f j = hV h a j
    unfold hV
    rw [e1]
  · cases q
theorem nw_zEc {z q : Nat} (k : nwOk h = true) : zE (zDc 64) h (nwS h 64) (h, 64, z, q) := by
  unfold nwOk at k
  simp only [Bool.and_eq_true] at k
  have k1 := k.1.1.1.1.1.1
  refine ⟨rfl, fun a e he => ?_, fun a _ => rfl⟩
  unfold zDc at he
  by_cases c : a < 41
  · rw [if_pos c] at he
    have := List.all_eq_true.mp k1 a (List.mem_range.mpr c)
    rw [he] at this
    exact ⟨by show a < 64; omega, ceq_ok this⟩
  · rw [if_neg c, if_neg (by omega)] at he
    cases he
theorem nw_zEr {z q : Nat} (k : nwOk h = true) : zE zDr h (nwS h 64) (h, 64, z, q) := by
  unfold nwOk at k
  simp only [Bool.and_eq_true] at k
  have k1 := k.1.1.1.1.1.2
  refine ⟨rfl, fun a e he => ?_, fun a _ => rfl⟩
  unfold zDr at he
  by_cases c : 41 ≤ a ∧ a < 63
  · rw [if_pos c] at he
    have := List.all_eq_true.mp k1 (a - 41) (List.mem_range.mpr (by omega))
    rw [he, show 41 + (a - 41) = a by omega] at this
    exact ⟨by show a < 64; omega, ceq_ok this⟩
  · rw [if_neg c] at he
    cases he
theorem isL_ok {v : Value} (q : isL v = true) : ∃ x, v = .long x := by
  cases v with
  | long x => exact ⟨x, rfl⟩
  | _ => cases q
theorem nw_inv (k : nwOk h = true) : InvD 0 0 0 0 0 (nwS h 64) (nwS h 64) := by
  unfold nwOk at k
  simp only [Bool.and_eq_true] at k
  obtain ⟨⟨⟨⟨⟨-, kd⟩, kz⟩, kn⟩, kl⟩, kr⟩ := k
  obtain ⟨d1, d2, d3, d4, d5, d6, d7, d8, d9, d10, d11, d12, d13, d14, d15, d16, d17, d18, d19, d20, d21, d22, d23, d24, d25, d26⟩ := of_decide_eq_true kd
  have z : ∀ k, k < 66 → hV h 18 k = 0 ∧ hV h 54 k = 0 := fun k hk => of_decide_eq_true (List.all_eq_true.mp kz k (List.mem_range.mpr hk))
  have nl : hK h 14 2 = .null := (veq_ok kn).symm
  have b0 : ∀ {x : Int32} {b : Int}, 0 ≤ b → x = 0 → bd x 0 b := fun hb e => by rw [e]; exact ⟨by decide, by rw [ti_0]; exact hb⟩
  refine ⟨0, ⟨d1, d2, d3, d4, d5, d6, d7, fun k hk => by omega, fun k hk => by omega, fun k hk => by omega, by omega, by omega, by omega, fun _ => ⟨rfl, rfl⟩, fun q => by omega, fun j hj => by omega, fun j hj => by omega, fun j hj => by omega⟩, ⟨0, by omega, d8, d9, fun k hk => by omega⟩, ⟨plainW, Or.inl ⟨nl, rfl⟩, Or.inl ⟨d10, rfl⟩⟩, ⟨0, by omega, d11, d12, fun i hi => by omega, Or.inl ⟨d13, d10⟩⟩, ⟨0, by omega, d14, d15, fun p hp => by omega⟩,
    ⟨⟨fun k hk => (z k (by omega)).1.trans (z k (by omega)).2.symm, fun j h' hj hh => (z _ (by unfold loC; omega)).1.trans (z _ (by unfold loR; omega)).2.symm, (z 64 (by omega)).1.trans (z 64 (by omega)).2.symm, (z 65 (by omega)).1.trans (z 65 (by omega)).2.symm⟩, ⟨0, by omega, Or.inl rfl, (z 64 (by omega)).1⟩, fun j hj => ⟨b0 (by omega) (z _ (by omega)).1, b0 (by omega) (z _ (by omega)).1, b0 (by omega) (z _ (by omega)).1, b0 (by omega) (z _ (by omega)).1, Or.inl (z _ (by omega)).1, Or.inl (z _ (by omega)).1, fun _ q => by omega⟩, fun h' hh => ⟨b0 (by omega) (z _ (by omega)).1, b0 (by omega) (z _ (by omega)).1⟩, b0 (by omega) (z 65 (by omega)).1⟩,
    ⟨0, by omega, by omega, d16, d17, d18, fun i hi => by omega⟩, ⟨0, 0, by omega, by omega, by omega, d19, d20, d21, fun i hi => by omega⟩, ⟨0, by omega, d22, d24, fun i hi => by omega, fun i hi => by omega, d23⟩, ⟨d25.trans d26.symm, Or.inl d25⟩, trivial, Nat.le_refl _, isL_ok kl, isL_ok kr⟩
end NC
