/-! both sides in one heap: a call of one leaves the other's. -/
section ND
variable {A B : zS} {h h0 h1 : Nat → va_E} {t : Nat × Nat × Nat} {P : ia_T} {d k : Nat} {as : List Value}
def out63 (h : Nat → va_E) : Prop := ∃ f, h 63 = .inl (3, 1, .inr (.inl f))
def Both (A B : zS) (hp : ia_H) : Prop := zE (zDc hp.2.1) hp.1 A hp ∧ zE zDr hp.1 B hp ∧ out63 hp.1 ∧ okH hp ∧ 64 ≤ hp.2.1
theorem zE.re {D : Nat → Option zD} {S : zS} {hp : ia_H} (H : zE D h0 S hp) : zE D hp.1 S hp := ⟨H.1, H.2.1, fun _ _ => rfl⟩
theorem zE.oth {D D2 : Nat → Option zD} {S S2 : zS} (H : zE D h S (h1, t)) (H2 : zE D2 h0 S2 (h, t)) (dj : ∀ a e, D2 a = some e → D a = none) : zE D2 h1 S2 (h1, t) :=
  ⟨H2.1, fun a e he => ⟨(H2.2.1 a e he).1, (H.2.2 a (dj a e he)).trans (H2.2.1 a e he).2⟩, fun _ _ => rfl⟩
theorem dj_rc {n : Nat} : ∀ a e, zDr a = some e → zDc n a = none := fun a e he => by
  unfold zDr at he
  by_cases c : 41 ≤ a ∧ a < 63
  · unfold zDc
    rw [if_neg (by omega), if_neg (by omega)]
  · rw [if_neg c] at he
    cases he
theorem dj_cr {n : Nat} : ∀ a e, zDc n a = some e → zDr a = none := fun a e he => by
  unfold zDc at he
  unfold zDr
  by_cases c : a < 41
  · rw [if_neg (by omega)]
  · rw [if_neg c] at he
    by_cases c2 : 64 ≤ a ∧ a < n
    · rw [if_neg (by omega)]
    · rw [if_neg c2] at he
      cases he
theorem dc_63 {n : Nat} : zDc n 63 = none := by
  unfold zDc
  rw [if_neg (by omega), if_neg (by omega)]
theorem dr_63 : zDr 63 = none := by
  unfold zDr
  rw [if_neg (by omega)]
theorem both_c (G : gdT P) (H : Both A B (h, t)) (HS : okS t.1 as) {R : Int32 × zS} (hw : zC P d k as (h, t) (zQi (zDc t.1) h t R)) : zC P d k as (h, t) (fun v hp' => v = some (.int R.1) ∧ hp'.2 = t ∧ Both R.2 B hp') := by
  obtain ⟨H1, H2, ⟨f, H3⟩, H4, H5⟩ := H
  obtain ⟨F, v, hp', e, ⟨h', rfl, ev, q⟩, ok⟩ := zC.ok G H4 HS hw
  refine ⟨F, v, (h', t), e, ev, rfl, q.re, q.oth H2 dj_rc, ⟨f, ?_⟩, ok, H5⟩
  exact (q.2.2 63 dc_63).trans H3
theorem both_r (G : gdT P) (H : Both A B (h, t)) (HS : okS t.1 as) {R : Int32 × zS} (hw : zC P d k as (h, t) (zQi zDr h t R)) : zC P d k as (h, t) (fun v hp' => v = some (.int R.1) ∧ hp'.2 = t ∧ Both A R.2 hp') := by
  obtain ⟨H1, H2, ⟨f, H3⟩, H4, H5⟩ := H
  obtain ⟨F, v, hp', e, ⟨h', rfl, ev, q⟩, ok⟩ := zC.ok G H4 HS hw
  refine ⟨F, v, (h', t), e, ev, rfl, q.oth H1 dj_cr, q.re, ⟨f, ?_⟩, ok, H5⟩
  exact (q.2.2 63 dr_63).trans H3
theorem zen_nB (B : zS) (n a : Nat) (e : zD) : zen (nB B n) a e = zen B a e := by
  unfold zen
  rw [zfs_congr (S := B) (S' := nB B n) e.2.2 0 (fun k _ => ⟨rfl, rfl⟩)]
  rfl
theorem both_t (G : gdT P) (H : Both A B (h, t)) (HS : okS t.1 as) {R : Int32 × zS} (hw : zC P d k as (h, t) (zQt h t R)) : zC P d k as (h, t) (fun v hp' => v = some (.int R.1) ∧ hp'.2.1 ≤ t.1 + 1 ∧ hp'.2.2.1 ≤ t.2.1 + 1 ∧ hp'.2.2.2 ≤ t.2.2 + 202 ∧ Both R.2 (nB B R.2.2.2.2) hp') := by
  obtain ⟨H1, H2, ⟨f, H3⟩, H4, H5⟩ := H
  obtain ⟨F, v, hp', e, ⟨h', t', rfl, ev, q, t1, t2, t3, t4⟩, ok⟩ := zC.ok G H4 HS hw
  have n' : R.2.2.2.2 = t'.1 := q.1
  refine ⟨F, v, (h', t'), e, ev, t2, t3, t4, q.re, ⟨n', fun a e he => ⟨?_, ?_⟩, fun _ _ => rfl⟩, ⟨f, (q.2.2 63 dc_63).trans H3⟩, ok, Nat.le_trans H5 t1⟩
  · exact Nat.lt_of_lt_of_le (H2.2.1 a e he).1 t1
  · rw [zen_nB]
    exact (q.2.2 a (dj_rc a e he)).trans (H2.2.1 a e he).2
theorem Both.n (H : Both A B (h, t)) : nB B t.1 = B := by
  have e : B.2.2.2 = t.1 := H.2.1.1
  unfold nB
  rw [← e]
/-- a pair of calls: the same answer, the relation behind -/
theorem both_cr {M d2 k2 : Nat} {as2 : List Value} {fC fR : zS → Option (Int32 × zS)} (G : gdT P) (H : Both A B (h, t)) (HS : okS t.1 as) (HS2 : okS t.1 as2) (hs : Sim M (fC A) (fR B))
    (hc : ∀ R, fC A = some R → zC P d k as (h, t) (zQi (zDc t.1) h t R)) (hr : ∀ h' R, zE zDr h' B (h', t) → fR B = some R → zC P d2 k2 as2 (h', t) (zQi zDr h' t R)) :
    ∃ r, zC P d k as (h, t) (fun v hp' => v = some (.int r) ∧ hp'.2 = t ∧ zC P d2 k2 as2 hp' (fun v2 hp2 => v2 = some (.int r) ∧ hp2.2 = t ∧ ∃ A' B', Both A' B' hp2 ∧ Inv (M + 1000) A' B')) := by
  obtain ⟨r, A', B', e1, e2, I⟩ := hs
  refine ⟨r, ?_⟩
  obtain ⟨F, v, hp', c1, c2, c3, c4⟩ := both_c G H HS (hc _ e1)
  obtain ⟨h', t'⟩ := hp'
  have c3 : t' = t := c3
  subst c3
  refine ⟨F, v, (h', t'), c1, c2, rfl, ?_⟩
  obtain ⟨F2, v2, hp2, g1, g2, g3, g4⟩ := both_r G c4 HS2 (hr h' _ c4.2.1 e2)
  exact ⟨F2, v2, hp2, g1, g2, g3, A', B', g4, I⟩
end ND
