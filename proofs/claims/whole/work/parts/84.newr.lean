/-! the constructors, run. -/
section NB
def ia_tS1 (own x : Nat) : Option Value := if own * 100000 + x = 90001053 then none else if x < 100000 then (ia_lk ia_LS (own * 100000 + x)).map (fun r => r.1) else none
def ia_hc1 (a : Nat) : va_E := if a = 2000000 then .inl (9, 0, .inl (fun _ => 0)) else (ia_lk ia_hcL a).getD (.inl (9, 0, .inl (fun _ => 0)))
def ia_P1 : ia_T := (ia_tF0, ia_tM0, ia_tC0, ia_tK0, ia_tS1, ia_ty0, ia_hc1, ia_mt0, ia_rN0, vwCl)
theorem tS1_in {fm : Value} : ∀ own x v, ia_tS1 own x = some v → ia_tS0 fm own x = some v := fun own x v h => by
  unfold ia_tS1 at h
  unfold ia_tS0
  by_cases c : own * 100000 + x = 90001053
  · rw [if_pos c] at h
    cases h
  · rw [if_neg c] at h
    rw [if_neg (fun q => c q.1)]
    exact h
theorem hc1_in (L : Nat) (xs : Nat → Int32) : ∀ a, ia_hc1 a = ia_hc0 L xs a ∨ ∃ f, ia_hc1 a = .inl (9, 0, .inl f) := fun a => by
  unfold ia_hc1 ia_hc0
  by_cases c : a = 2000000
  · exact Or.inr ⟨_, if_pos c⟩
  · exact Or.inl (by rw [if_neg c, if_neg c])
theorem ia_good1 : ia_Good ia_P1 ia_Ts ia_Xs := good_sw (tF := ia_tF0) (tM := ia_tM0) (tC := ia_tC0) (tK := ia_tK0) (tS := ia_tS0 (zfm false)) (tS' := ia_tS1) (ty := ia_ty0) (hc := ia_hc0 0 (fun _ => 0)) (hc' := ia_hc1) (mt := ia_mt0) (rN := ia_rN0) (cl := vwCl) (ia_good0 0 (fun _ => 0) false)
/-- the constructors by the tables without the script, all else by the whole -/
def ia_cal2 (L : Nat) (xs : Nat → Int32) (fm : Bool) (F d : Nat) (k : Nat) (as : List Value) (hp : ia_H) : Option (Option Value × ia_H) := if k = 11000 ∨ k = 12000 then ia_call ia_P1 F d k as hp else ia_call (ia_P0 L xs fm) F d k as hp
theorem ia_cal2_ok {L : Nat} {xs : Nat → Int32} {fm : Bool} (l : Launch) (D : va_G) (cy : Nat → Nat) (F d : Nat) : ia_Cal (ia_P0 L xs fm) ia_Ts ia_Xs l D cy d (ia_cal2 L xs fm F d) := by
  intro k as hh n z q v h' n' z' q' e
  by_cases c : k = 11000 ∨ k = 12000
  · rw [ia_cal2, if_pos c] at e
    exact (Cal_sw (tF := ia_tF0) (tM := ia_tM0) (tC := ia_tC0) (tK := ia_tK0) (tS := ia_tS0 (zfm fm)) (tS' := ia_tS1) (ty := ia_ty0) (hc := ia_hc0 L xs) (hc' := ia_hc1) (mt := ia_mt0) (rN := ia_rN0) (cl := vwCl) tS1_in (hc1_in L xs) (ia_sound ia_good1 l D cy F d)) k as hh n z q v h' n' z' q' e
  · rw [ia_cal2, if_neg c] at e
    exact (ia_sound (ia_good0 L xs fm) l D cy F d) k as hh n z q v h' n' z' q' e
def nh0 : Nat → va_E := fun _ => .inl (9, 0, .inl (fun _ => 0))
/-- a new object -/
def nwO (ci k : Nat) : va_E := .inr (ci, (List.range k).map (fun j => defaultValue (ia_ty0 ci j)))
def nwX (d : Nat) : Option (Option Value × ia_H) := ia_call ia_P1 400 d 11000 [.ref 0] (va_up nh0 0 (nwO 11 19), 1, 1, 19)
def veq (v w : Value) : Bool := match v, w with
  | .ref a, .ref b => a == b
  | .null, .null => true
  | _, _ => false
def feq (fd : Nat × Value) (v : Value) : Bool := if fd.1 = 0 then (match v with
  | .int _ => true
  | _ => false) else if fd.1 = 1 then veq fd.2 v else true
def fseq : List (Nat × Value) → List Value → Bool
  | [], [] => true
  | fd :: l, v :: vs => feq fd v && fseq l vs
  | _, _ => false
/-- a cell has a form -/
def ceq (e : zD) (c : va_E) : Bool := match c with
  | .inr (ci, fs) => decide (e.1 = 100 + ci) && fseq e.2.2 fs
  | .inl (4, N, .inr (.inr (.inr (.inr _)))) => decide (e.1 = 4 ∧ e.2.1 = N)
  | .inl (k, N, .inl _) => decide (e.1 = k ∧ e.2.1 = N ∧ k < 4)
  | _ => false
/-- the numbers, the references of a heap -/
def hV (h : Nat → va_E) (a k : Nat) : Int32 := match h a with
  | .inr (_, fs) => (match fs[k]? with
    | some (.int v) => v
    | _ => 0)
  | .inl (_, _, .inl f) => f k
  | _ => 0
def hK (h : Nat → va_E) (a k : Nat) : Value := match h a with
  | .inr (_, fs) => fs[k]?.getD .null
  | .inl (_, _, .inr (.inr (.inr (.inr f)))) => (match f k with
    | some r => .ref r
    | none => .null)
  | _ => .null
def isL (v : Value) : Bool := match v with
  | .long _ => true
  | _ => false
/-- what the relation asks of the start -/
def nwOk (h : Nat → va_E) : Bool := (List.range 41).all (fun a => match zDcL[a]? with
    | some e => ceq e (h a)
    | none => false) && (List.range 22).all (fun a => match zDrL[a]? with
    | some e => ceq e (h (41 + a))
    | none => false) &&
  decide (hV h 12 0 = 0 ∧ hV h 12 1 = 0 ∧ hV h 12 2 = 0 ∧ hV h 41 24 = 0 ∧ hV h 41 25 = 0 ∧ hV h 41 26 = 0 ∧ hV h 0 17 = 0 ∧ hV h 1 1 = 0 ∧ hV h 41 6 = 0 ∧ hV h 41 35 = -1 ∧ hV h 0 14 = 0 ∧ hV h 41 7 = 0 ∧ hV h 0 16 = -1 ∧ hV h 0 15 = 0 ∧ hV h 41 32 = 0 ∧
    hV h 21 5 = 0 ∧ hV h 21 6 = 0 ∧ hV h 41 39 = 0 ∧ hV h 21 7 = 0 ∧ hV h 21 8 = 0 ∧ hV h 41 40 = 0 ∧ hV h 37 1 = 0 ∧ hV h 37 2 = 0 ∧ hV h 41 50 = 0 ∧ hV h 21 4 = 0 ∧ hV h 41 53 = 0) && (List.range 66).all (fun k => decide (hV h 18 k = 0 ∧ hV h 54 k = 0)) && veq .null (hK h 14 2) && isL (hK h 0 18) && isL (hK h 41 51)
def nwOut : va_E := .inl (3, 1, .inr (.inl (fun _ => 0)))
def nwG (h : Nat → va_E) (n z q : Nat) : Option (Option Value × ia_H) := ia_call ia_P1 400 20 12000 [.ref n] (va_up h n (nwO 12 54), n + 1, z + 1, q + 54)
def nwC (h : Nat → va_E) : Bool := ia_okh (va_up h 63 nwOut) 64 && nwOk (va_up h 63 nwOut)
def ckX (X : Option (Option Value × ia_H)) : Bool := match X with
  | some (none, _, n, z, _) => decide (n = 41 ∧ z = 41)
  | _ => false
def ckM (X : Option (Option Value × ia_H)) (G : (Nat → va_E) → Nat → Nat → Nat → Option (Option Value × ia_H)) : Option (Option Value × ia_H) := match X with
  | some (none, h, n, z, q) => G h n z q
  | _ => none
def ckY (C : (Nat → va_E) → Bool) (X : Option (Option Value × ia_H)) : Bool := match X with
  | some (none, h, n, z, q) => decide (n = 63 ∧ z = 63 ∧ q < 100000) && C h
  | _ => false
theorem nw_gen {X : Option (Option Value × ia_H)} {G : (Nat → va_E) → Nat → Nat → Nat → Option (Option Value × ia_H)} {C : (Nat → va_E) → Bool} (x : ckX X = true) (y : ckY C (ckM X G) = true) : ∃ h1 q1 h2 q2, X = some (none, h1, 41, 41, q1) ∧ G h1 41 41 q1 = some (none, h2, 63, 63, q2) ∧ q2 < 100000 ∧ C h2 = true := by
  rcases X with _ | ⟨_ | v, h, n, z, q⟩
  · cases x
  · have x : decide (n = 41 ∧ z = 41) = true := x
    obtain ⟨rfl, rfl⟩ := of_decide_eq_true x
    have y : ckY C (G h 41 41 q) = true := y
    generalize hM : G h 41 41 q = Y at y
    rcases Y with _ | ⟨_ | v, h2, n2, z2, q2⟩
    · cases y
    · have y : (decide (n2 = 63 ∧ z2 = 63 ∧ q2 < 100000) && C h2) = true := y
      rw [Bool.and_eq_true] at y
      obtain ⟨y1, y2⟩ := y
      obtain ⟨rfl, rfl, y3⟩ := of_decide_eq_true y1
      exact ⟨h, q, h2, q2, rfl, hM, y3, y2⟩
    · cases y
  · cases x
theorem nw_okX : ckX (nwX 20) = true := by decide +kernel
theorem nw_ok : ckY nwC (ckM (nwX 20) nwG) = true := by decide +kernel
theorem nw_run : ∃ h1 q1 h2 q2, nwX 20 = some (none, h1, 41, 41, q1) ∧ nwG h1 41 41 q1 = some (none, h2, 63, 63, q2) ∧ q2 < 100000 ∧ nwC h2 = true := nw_gen nw_okX nw_ok
end NB
