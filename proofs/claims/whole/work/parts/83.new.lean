/-! the constructors: what they ask of the tables does not name the script. -/
section NA
variable {tF : Nat → Nat → Option (Nat × Nat)} {tM : Nat → Nat → Option (Nat × Nat)} {tC : Nat → Nat → Option Nat} {tK : Nat → Nat → Option Value} {tS tS' : Nat → Nat → Option Value} {ty : Nat → Nat → FieldType} {hc hc' : Nat → va_E} {mt : Nat → Option (Nat × MethodName × ByteArray × Nat × Option FieldType × Nat)} {rN : Nat → String} {cl : List vw_C} {Ts Xs : List Cond}
theorem good_sw (G : ia_Good (tF, tM, tC, tK, tS, ty, hc, mt, rN, cl) Ts Xs) : ia_Good (tF, tM, tC, tK, tS', ty, hc', mt, rN, cl) Ts Xs := G
theorem E_sw {ad : Nat → Nat} {A : Nat → Prop} {U : State} {H : Heap} (ht : ∀ own x v, tS' own x = some v → tS own x = some v) (hh : ∀ a, hc' a = hc a ∨ ∃ f, hc' a = .inl (9, 0, .inl f)) (h : ia_E (tF, tM, tC, tK, tS, ty, hc, mt, rN, cl) Ts ad A U H) : ia_E (tF, tM, tC, tK, tS', ty, hc', mt, rN, cl) Ts ad A U H := by
  obtain ⟨h1, h2, h3, h4, h5, h6, h7⟩ := h
  have up : ∀ (a : Nat) (e : va_E), hc' a = e → (∀ f, e ≠ .inl (9, 0, .inl f)) → hc a = e := fun a e he hn => by
    rcases hh a with c | ⟨f, c⟩
    · rw [← c, he]
    · exact absurd (he.symm.trans c) (hn f)
  refine ⟨fun a N f ha hc => h1 a N f ha (up a _ hc (fun g q => by injection q with q; injection q with q; cases q)), fun a N f ha hc => h2 a N f ha (up a _ hc (fun g q => by injection q with q; injection q with q; cases q)), fun own x v hv => h3 own x v (ht own x v hv), fun a ci fs ha hc => h4 a ci fs ha (up a _ hc (fun g q => by cases q)), fun a ci fs ha hc => h5 a ci fs ha (up a _ hc (fun g q => by cases q)), h6, fun a ha => ?_⟩
  have z := h7 a ha
  rw [show ia_hc (tF, tM, tC, tK, tS, ty, hc, mt, rN, cl) a = hc a from rfl] at z
  rw [show ia_hc (tF, tM, tC, tK, tS', ty, hc', mt, rN, cl) a = hc' a from rfl]
  rcases hh a with c | ⟨f, c⟩
  · rw [c]
    exact z
  · rw [c]
    trivial
theorem Cal_sw {l : Launch} {D : va_G} {cy : Nat → Nat} {d : Nat} {cal : Nat → List Value → ia_H → Option (Option Value × ia_H)} (ht : ∀ own x v, tS' own x = some v → tS own x = some v) (hh : ∀ a, hc' a = hc a ∨ ∃ f, hc' a = .inl (9, 0, .inl f)) (h : ia_Cal (tF, tM, tC, tK, tS', ty, hc', mt, rN, cl) Ts Xs l D cy d cal) : ia_Cal (tF, tM, tC, tK, tS, ty, hc, mt, rN, cl) Ts Xs l D cy d cal := by
  intro k as h0 n z q v h' n' z' q' e
  obtain ⟨g1, g2⟩ := h k as h0 n z q v h' n' z' q' e
  refine ⟨g1, fun own y cc nL ret np hm ad sz => ?_⟩
  have M := g2 own y cc nL ret np hm ad sz
  intro p e' a1 a2 a3 s m args below a4 a5 a6 a7
  refine M p e' a1 a2 a3 s m args below a4 a5 ?_ a7
  obtain ⟨b1, b2, b3, b4, b5, b6, b7⟩ := a6
  exact ⟨b1, b2, b3, b4, b5, E_sw ht hh b6, b7⟩
end NA
