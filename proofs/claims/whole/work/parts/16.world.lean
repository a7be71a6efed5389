/-! the cells of both sides (written by wip/whole/world.py) -/
section ZW
def zDcL : List zD := [(111, 0, [(1, .ref 1), (1, .ref 3), (1, .ref 7), (1, .ref 9), (1, .ref 11), (1, .ref 14), (1, .ref 17), (1, .ref 19), (1, .ref 21), (1, .ref 26), (1, .ref 35), (1, .ref 37), (1, .ref 39), (1, .ref 40), (0, .null), (0, .null), (0, .null), (0, .null), (2, .null)]), (109, 0, [(1, .ref 2), (0, .null), (0, .null), (0, .null)]), (0, 200, []), (104, 0, [(1, .ref 1), (1, .ref 4)]), (110, 0, [(1, .ref 5), (1, .ref 6)]), (0, 3, []), (0, 62, []), (105, 0, [(1, .ref 1), (1, .ref 8), (0, .null)]), (0, 202, []), (106, 0, [(1, .ref 1), (1, .ref 10), (0, .null)]), (0, 16, []), (110, 0, [(1, .ref 12), (1, .ref 13)]), (0, 3, []), (0, 62, []), (102, 0, [(1, .ref 15), (1, .ref 16), (2, .null)]), (0, 6, []), (0, 64, []), (107, 0, [(1, .ref 11), (1, .ref 14), (1, .ref 18)]), (0, 66, []), (107, 0, [(1, .ref 11), (1, .ref 14), (1, .ref 20)]), (0, 66, []), (101, 0, [(1, .ref 22), (1, .ref 23), (1, .ref 24), (1, .ref 25), (0, .null), (0, .null), (0, .null), (0, .null), (0, .null)]), (0, 2640, []), (0, 60, []), (0, 60, []), (0, 66, []), (108, 0, [(1, .ref 11), (1, .ref 31), (1, .ref 33), (1, .ref 27), (0, .null), (1, .ref 28), (1, .ref 29), (1, .ref 30)]), (0, 41, []), (0, 144, []), (0, 144, []), (0, 6, []), (107, 0, [(1, .ref 11), (1, .ref 14), (1, .ref 32)]), (0, 66, []), (107, 0, [(1, .ref 11), (1, .ref 14), (1, .ref 34)]), (0, 66, []), (100, 0, [(1, .ref 36), (0, .null), (0, .null), (0, .null), (0, .null), (0, .null)]), (0, 6, []), (103, 0, [(1, .ref 38), (0, .null), (0, .null)]), (0, 20, []), (4, 4, []), (4, 4, [])]
def zDrL : List zD := [(112, 0, [(0, .null), (1, .ref 42), (1, .ref 43), (1, .ref 44), (1, .ref 45), (2, .null), (0, .null), (0, .null), (0, .null), (0, .null), (0, .null), (0, .null), (0, .null), (0, .null), (0, .null), (1, .ref 1000106), (1, .ref 1000104), (0, .null), (1, .ref 46), (1, .ref 47), (1, .ref 48), (1, .ref 49), (1, .ref 50), (1, .ref 51), (0, .null), (0, .null), (0, .null), (0, .null), (0, .null), (0, .null), (1, .ref 52), (1, .ref 53), (0, .null), (1, .ref 54), (1, .ref 55), (0, .null), (1, .ref 56), (1, .ref 57), (1, .ref 58), (0, .null), (0, .null), (1, .ref 59), (0, .null), (0, .null), (0, .null), (0, .null), (0, .null), (0, .null), (1, .ref 60), (1, .ref 61), (0, .null), (2, .null), (1, .ref 62), (0, .null)]), (1, 200, []), (1, 800, []), (0, 4, []), (0, 128, []), (0, 24, []), (0, 24, []), (0, 30, []), (0, 30, []), (0, 8, []), (0, 8, []), (0, 80, []), (0, 5, []), (0, 66, []), (0, 66, []), (0, 2640, []), (0, 60, []), (0, 60, []), (0, 264, []), (0, 20, []), (2, 20, []), (0, 66, [])]
/-- the class's cells: those that its constructor made, and from 64 on the rows that it keeps of laws and plans -/
def zDc (n a : Nat) : Option zD := if a < 41 then zDcL[a]? else if 64 ≤ a ∧ a < n then some (5, 0, []) else none
def zDr (a : Nat) : Option zD := if 41 ≤ a ∧ a < 63 then zDrL[a - 41]? else none
theorem dc_0 {n : Nat} : zDc n 0 = some (111, 0, [(1, .ref 1), (1, .ref 3), (1, .ref 7), (1, .ref 9), (1, .ref 11), (1, .ref 14), (1, .ref 17), (1, .ref 19), (1, .ref 21), (1, .ref 26), (1, .ref 35), (1, .ref 37), (1, .ref 39), (1, .ref 40), (0, .null), (0, .null), (0, .null), (0, .null), (2, .null)]) := rfl
theorem dc_1 {n : Nat} : zDc n 1 = some (109, 0, [(1, .ref 2), (0, .null), (0, .null), (0, .null)]) := rfl
theorem dc_2 {n : Nat} : zDc n 2 = some (0, 200, []) := rfl
theorem dc_3 {n : Nat} : zDc n 3 = some (104, 0, [(1, .ref 1), (1, .ref 4)]) := rfl
theorem dc_4 {n : Nat} : zDc n 4 = some (110, 0, [(1, .ref 5), (1, .ref 6)]) := rfl
theorem dc_5 {n : Nat} : zDc n 5 = some (0, 3, []) := rfl
theorem dc_6 {n : Nat} : zDc n 6 = some (0, 62, []) := rfl
theorem dc_7 {n : Nat} : zDc n 7 = some (105, 0, [(1, .ref 1), (1, .ref 8), (0, .null)]) := rfl
theorem dc_8 {n : Nat} : zDc n 8 = some (0, 202, []) := rfl
theorem dc_9 {n : Nat} : zDc n 9 = some (106, 0, [(1, .ref 1), (1, .ref 10), (0, .null)]) := rfl
theorem dc_10 {n : Nat} : zDc n 10 = some (0, 16, []) := rfl
theorem dc_11 {n : Nat} : zDc n 11 = some (110, 0, [(1, .ref 12), (1, .ref 13)]) := rfl
theorem dc_12 {n : Nat} : zDc n 12 = some (0, 3, []) := rfl
theorem dc_13 {n : Nat} : zDc n 13 = some (0, 62, []) := rfl
theorem dc_14 {n : Nat} : zDc n 14 = some (102, 0, [(1, .ref 15), (1, .ref 16), (2, .null)]) := rfl
theorem dc_15 {n : Nat} : zDc n 15 = some (0, 6, []) := rfl
theorem dc_16 {n : Nat} : zDc n 16 = some (0, 64, []) := rfl
theorem dc_17 {n : Nat} : zDc n 17 = some (107, 0, [(1, .ref 11), (1, .ref 14), (1, .ref 18)]) := rfl
theorem dc_18 {n : Nat} : zDc n 18 = some (0, 66, []) := rfl
theorem dc_19 {n : Nat} : zDc n 19 = some (107, 0, [(1, .ref 11), (1, .ref 14), (1, .ref 20)]) := rfl
theorem dc_20 {n : Nat} : zDc n 20 = some (0, 66, []) := rfl
theorem dc_21 {n : Nat} : zDc n 21 = some (101, 0, [(1, .ref 22), (1, .ref 23), (1, .ref 24), (1, .ref 25), (0, .null), (0, .null), (0, .null), (0, .null), (0, .null)]) := rfl
theorem dc_22 {n : Nat} : zDc n 22 = some (0, 2640, []) := rfl
theorem dc_23 {n : Nat} : zDc n 23 = some (0, 60, []) := rfl
theorem dc_24 {n : Nat} : zDc n 24 = some (0, 60, []) := rfl
theorem dc_25 {n : Nat} : zDc n 25 = some (0, 66, []) := rfl
theorem dc_26 {n : Nat} : zDc n 26 = some (108, 0, [(1, .ref 11), (1, .ref 31), (1, .ref 33), (1, .ref 27), (0, .null), (1, .ref 28), (1, .ref 29), (1, .ref 30)]) := rfl
theorem dc_27 {n : Nat} : zDc n 27 = some (0, 41, []) := rfl
theorem dc_28 {n : Nat} : zDc n 28 = some (0, 144, []) := rfl
theorem dc_29 {n : Nat} : zDc n 29 = some (0, 144, []) := rfl
theorem dc_30 {n : Nat} : zDc n 30 = some (0, 6, []) := rfl
theorem dc_31 {n : Nat} : zDc n 31 = some (107, 0, [(1, .ref 11), (1, .ref 14), (1, .ref 32)]) := rfl
theorem dc_32 {n : Nat} : zDc n 32 = some (0, 66, []) := rfl
theorem dc_33 {n : Nat} : zDc n 33 = some (107, 0, [(1, .ref 11), (1, .ref 14), (1, .ref 34)]) := rfl
theorem dc_34 {n : Nat} : zDc n 34 = some (0, 66, []) := rfl
theorem dc_35 {n : Nat} : zDc n 35 = some (100, 0, [(1, .ref 36), (0, .null), (0, .null), (0, .null), (0, .null), (0, .null)]) := rfl
theorem dc_36 {n : Nat} : zDc n 36 = some (0, 6, []) := rfl
theorem dc_37 {n : Nat} : zDc n 37 = some (103, 0, [(1, .ref 38), (0, .null), (0, .null)]) := rfl
theorem dc_38 {n : Nat} : zDc n 38 = some (0, 20, []) := rfl
theorem dc_39 {n : Nat} : zDc n 39 = some (4, 4, []) := rfl
theorem dc_40 {n : Nat} : zDc n 40 = some (4, 4, []) := rfl
theorem dr_41 : zDr 41 = some (112, 0, [(0, .null), (1, .ref 42), (1, .ref 43), (1, .ref 44), (1, .ref 45), (2, .null), (0, .null), (0, .null), (0, .null), (0, .null), (0, .null), (0, .null), (0, .null), (0, .null), (0, .null), (1, .ref 1000106), (1, .ref 1000104), (0, .null), (1, .ref 46), (1, .ref 47), (1, .ref 48), (1, .ref 49), (1, .ref 50), (1, .ref 51), (0, .null), (0, .null), (0, .null), (0, .null), (0, .null), (0, .null), (1, .ref 52), (1, .ref 53), (0, .null), (1, .ref 54), (1, .ref 55), (0, .null), (1, .ref 56), (1, .ref 57), (1, .ref 58), (0, .null), (0, .null), (1, .ref 59), (0, .null), (0, .null), (0, .null), (0, .null), (0, .null), (0, .null), (1, .ref 60), (1, .ref 61), (0, .null), (2, .null), (1, .ref 62), (0, .null)]) := rfl
theorem dr_42 : zDr 42 = some (1, 200, []) := rfl
theorem dr_43 : zDr 43 = some (1, 800, []) := rfl
theorem dr_44 : zDr 44 = some (0, 4, []) := rfl
theorem dr_45 : zDr 45 = some (0, 128, []) := rfl
theorem dr_46 : zDr 46 = some (0, 24, []) := rfl
theorem dr_47 : zDr 47 = some (0, 24, []) := rfl
theorem dr_48 : zDr 48 = some (0, 30, []) := rfl
theorem dr_49 : zDr 49 = some (0, 30, []) := rfl
theorem dr_50 : zDr 50 = some (0, 8, []) := rfl
theorem dr_51 : zDr 51 = some (0, 8, []) := rfl
theorem dr_52 : zDr 52 = some (0, 80, []) := rfl
theorem dr_53 : zDr 53 = some (0, 5, []) := rfl
theorem dr_54 : zDr 54 = some (0, 66, []) := rfl
theorem dr_55 : zDr 55 = some (0, 66, []) := rfl
theorem dr_56 : zDr 56 = some (0, 2640, []) := rfl
theorem dr_57 : zDr 57 = some (0, 60, []) := rfl
theorem dr_58 : zDr 58 = some (0, 60, []) := rfl
theorem dr_59 : zDr 59 = some (0, 264, []) := rfl
theorem dr_60 : zDr 60 = some (0, 20, []) := rfl
theorem dr_61 : zDr 61 = some (2, 20, []) := rfl
theorem dr_62 : zDr 62 = some (0, 66, []) := rfl
theorem dc_dyn {n a : Nat} (h : 64 ≤ a ∧ a < n) : zDc n a = some (5, 0, []) := by
  unfold zDc
  rw [if_neg (by omega), if_pos h]
/-- a scene of the class: its cell o, its numbers in o + 1 -/
def zSc (n o : Nat) : Prop := zDc n o = some (107, 0, [(1, .ref 11), (1, .ref 14), (1, .ref (o + 1))]) ∧ zDc n (o + 1) = some (0, 66, []) ∧ o < 41
theorem sc_17 {n : Nat} : zSc n 17 := ⟨rfl, rfl, by decide⟩
theorem sc_19 {n : Nat} : zSc n 19 := ⟨rfl, rfl, by decide⟩
theorem sc_31 {n : Nat} : zSc n 31 := ⟨rfl, rfl, by decide⟩
theorem sc_33 {n : Nat} : zSc n 33 := ⟨rfl, rfl, by decide⟩
/-- a row of the reference's numbers: jars, hands .. -/
def zRw (a : Nat) : Prop := zDr a = some (0, 66, []) ∧ a < 63
theorem rw_54 : zRw 54 := ⟨rfl, by decide⟩
theorem rw_55 : zRw 55 := ⟨rfl, by decide⟩
def zc_1000001 (j : Nat) : Int32 := ([4, 6, 4] : List Int32).getD j 0
theorem hc_1000001 {L : Nat} {xs : Nat → Int32} {fm : Bool} : ia_hc (ia_P0 L xs fm) 1000001 = .inl (0, 3, .inl zc_1000001) := rfl
def zc_1000002 (j : Nat) : Int32 := ([6, 5, 2] : List Int32).getD j 0
theorem hc_1000002 {L : Nat} {xs : Nat → Int32} {fm : Bool} : ia_hc (ia_P0 L xs fm) 1000002 = .inl (0, 3, .inl zc_1000002) := rfl
def zc_1000003 (j : Nat) : Int32 := ([0, 24, 54] : List Int32).getD j 0
theorem hc_1000003 {L : Nat} {xs : Nat → Int32} {fm : Bool} : ia_hc (ia_P0 L xs fm) 1000003 = .inl (0, 3, .inl zc_1000003) := rfl
def zc_1000004 (j : Nat) : Int32 := ([0, 6, 11] : List Int32).getD j 0
theorem hc_1000004 {L : Nat} {xs : Nat → Int32} {fm : Bool} : ia_hc (ia_P0 L xs fm) 1000004 = .inl (0, 3, .inl zc_1000004) := rfl
def zc_1000005 (j : Nat) : Int32 := ([0, 0, 0, 0, 1, 1, 0, 1, 0, 0, 0, 0, 0] : List Int32).getD j 0
theorem hc_1000005 {L : Nat} {xs : Nat → Int32} {fm : Bool} : ia_hc (ia_P0 L xs fm) 1000005 = .inl (0, 13, .inl zc_1000005) := rfl
def zc_1000006 (j : Nat) : Int32 := ([99, 99, 9, 1, 9, 99, 99, 9, 9, 9, 9, 99, 99] : List Int32).getD j 0
theorem hc_1000006 {L : Nat} {xs : Nat → Int32} {fm : Bool} : ia_hc (ia_P0 L xs fm) 1000006 = .inl (0, 13, .inl zc_1000006) := rfl
def zc_1000007 (j : Nat) : Int32 := ([20, 10, 0, 0, 5, 40, 30, 5, 0, 2, 0, 10, 5] : List Int32).getD j 0
theorem hc_1000007 {L : Nat} {xs : Nat → Int32} {fm : Bool} : ia_hc (ia_P0 L xs fm) 1000007 = .inl (0, 13, .inl zc_1000007) := rfl
theorem hc_1000100 {L : Nat} {xs : Nat → Int32} {fm : Bool} : ia_hc (ia_P0 L xs fm) 1000100 = .inr (900, [.ref 1000200, .int 0]) := rfl
def zc_1000200 (j : Nat) : Int32 := ([106, 104, 116] : List Int32).getD j 0
theorem hc_1000200 {L : Nat} {xs : Nat → Int32} {fm : Bool} : ia_hc (ia_P0 L xs fm) 1000200 = .inl (1, 3, .inl zc_1000200) := rfl
theorem hc_1000101 {L : Nat} {xs : Nat → Int32} {fm : Bool} : ia_hc (ia_P0 L xs fm) 1000101 = .inr (900, [.ref 1000201, .int 0]) := rfl
def zc_1000201 (j : Nat) : Int32 := ([118, 115, 99, 108, 119, 103] : List Int32).getD j 0
theorem hc_1000201 {L : Nat} {xs : Nat → Int32} {fm : Bool} : ia_hc (ia_P0 L xs fm) 1000201 = .inl (1, 6, .inl zc_1000201) := rfl
theorem hc_1000102 {L : Nat} {xs : Nat → Int32} {fm : Bool} : ia_hc (ia_P0 L xs fm) 1000102 = .inr (900, [.ref 1000202, .int 0]) := rfl
def zc_1000202 (j : Nat) : Int32 := ([112, 115, 119, 116, 101] : List Int32).getD j 0
theorem hc_1000202 {L : Nat} {xs : Nat → Int32} {fm : Bool} : ia_hc (ia_P0 L xs fm) 1000202 = .inl (1, 5, .inl zc_1000202) := rfl
theorem hc_1000103 {L : Nat} {xs : Nat → Int32} {fm : Bool} : ia_hc (ia_P0 L xs fm) 1000103 = .inr (900, [.ref 1000203, .int 0]) := rfl
def zc_1000203 (j : Nat) : Int32 := ([97, 99] : List Int32).getD j 0
theorem hc_1000203 {L : Nat} {xs : Nat → Int32} {fm : Bool} : ia_hc (ia_P0 L xs fm) 1000203 = .inl (1, 2, .inl zc_1000203) := rfl
theorem hc_1000104 {L : Nat} {xs : Nat → Int32} {fm : Bool} : ia_hc (ia_P0 L xs fm) 1000104 = .inr (900, [.ref 1000204, .int 0]) := rfl
def zc_1000204 (j : Nat) : Int32 := ([112, 115, 119, 105, 99, 97] : List Int32).getD j 0
theorem hc_1000204 {L : Nat} {xs : Nat → Int32} {fm : Bool} : ia_hc (ia_P0 L xs fm) 1000204 = .inl (1, 6, .inl zc_1000204) := rfl
theorem hc_1000105 {L : Nat} {xs : Nat → Int32} {fm : Bool} : ia_hc (ia_P0 L xs fm) 1000105 = .inr (900, [.ref 1000205, .int 0]) := rfl
def zc_1000205 (j : Nat) : Int32 := ([116, 107, 111, 104, 119] : List Int32).getD j 0
theorem hc_1000205 {L : Nat} {xs : Nat → Int32} {fm : Bool} : ia_hc (ia_P0 L xs fm) 1000205 = .inl (1, 5, .inl zc_1000205) := rfl
theorem hc_1000106 {L : Nat} {xs : Nat → Int32} {fm : Bool} : ia_hc (ia_P0 L xs fm) 1000106 = .inr (900, [.ref 1000206, .int 0]) := rfl
def zc_1000206 (j : Nat) : Int32 := ([121] : List Int32).getD j 0
theorem hc_1000206 {L : Nat} {xs : Nat → Int32} {fm : Bool} : ia_hc (ia_P0 L xs fm) 1000206 = .inl (1, 1, .inl zc_1000206) := rfl
def zN : Nat := 5000
def zl {α β : Type} (a : α) (f : α → Option β) : Option β := f a
theorem zl_some {α β : Type} {a : α} {f : α → Option β} {r : β} (h : zl a f = some r) : ∃ b, b = a ∧ f b = some r := ⟨a, rfl, h⟩
def zb {α β : Type} (o : Option (α × zS)) (f : α → zS → Option β) : Option β := match o with
  | some (a, S) => f a S
  | none => none
theorem zb_some {α β : Type} {o : Option (α × zS)} {f : α → zS → Option β} {r : β} (h : zb o f = some r) : ∃ a S, o = some (a, S) ∧ f a S = some r := by
  cases o with
  | none => cases h
  | some p => exact ⟨p.1, p.2, rfl, h⟩
def zkl {β : Type} (v : Value) (f : Int64 → Option β) : Option β := match v with
  | .long x => f x
  | _ => none
theorem zkl_some {β : Type} {v : Value} {f : Int64 → Option β} {r : β} (h : zkl v f = some r) : ∃ x, v = .long x ∧ f x = some r := by
  cases v with
  | long x => exact ⟨x, rfl, h⟩
  | _ => cases h
def zkr {β : Type} (v : Value) (f : Option β) (g : Nat → Option β) : Option β := match v with
  | .null => f
  | .ref a => g a
  | _ => none
theorem zkr_some {β : Type} {v : Value} {f : Option β} {g : Nat → Option β} {r : β} (h : zkr v f g = some r) : (v = .null ∧ f = some r) ∨ ∃ a, v = .ref a ∧ g a = some r := by
  cases v with
  | null => exact Or.inl ⟨rfl, h⟩
  | ref a => exact Or.inr ⟨a, rfl, h⟩
  | _ => cases h
theorem zif_t {α : Type} {c : Prop} [Decidable c] {a b r : α} (h : (if c then a else b) = r) (hc : c) : a = r := by rwa [if_pos hc] at h
theorem zif_f {α : Type} {c : Prop} [Decidable c] {a b r : α} (h : (if c then a else b) = r) (hc : ¬ c) : b = r := by rwa [if_neg hc] at h
theorem zchk {β : Type} {c : Prop} [Decidable c] {a : Option β} {r : β} (h : (if c then a else none) = some r) : c ∧ a = some r := by
  by_cases hc : c
  · exact ⟨hc, zif_t h hc⟩
  · cases zif_f h hc
theorem zchkn {β : Type} {c : Prop} [Decidable c] {a : Option β} {r : β} (h : (if c then none else a) = some r) : ¬ c ∧ a = some r := by
  by_cases hc : c
  · cases zif_t h hc
  · exact ⟨hc, zif_f h hc⟩
/-- how a method ends: its number (or nothing, or a reference), and the state -/
def zQi (D : Nat → Option zD) (h0 : Nat → va_E) (t : Nat × Nat × Nat) (R : Int32 × zS) : Option Value → ia_H → Prop := fun v hp => ∃ h, hp = (h, t) ∧ v = some (.int R.1) ∧ zE D h0 R.2 (h, t)
def zQv (D : Nat → Option zD) (h0 : Nat → va_E) (t : Nat × Nat × Nat) (R : Unit × zS) : Option Value → ia_H → Prop := fun v hp => ∃ h, hp = (h, t) ∧ v = none ∧ zE D h0 R.2 (h, t)
def zQr (D : Nat → Option zD) (h0 : Nat → va_E) (t : Nat × Nat × Nat) (R : Value × zS) : Option Value → ia_H → Prop := fun v hp => ∃ h, hp = (h, t) ∧ v = some R.1 ∧ zE D h0 R.2 (h, t)
section R
variable {P : ia_T} {ex : Nat → List Value → ia_H → Option (List Value × ia_H)} {d own pc nL x k ck nL' np : Nat} {ini : Bool} {cc cc' : ByteArray} {ret ret' : Option FieldType} {lv lv' : List (Nat × Value)} {st as rest : List Value} {h : Nat → va_E} {t : Nat × Nat × Nat} {Q : Option Value → ia_H → Prop} {y : MethodName} {D : Nat → Option zD} {h0 : Nat → va_E} {S1 : zS}
theorem zW_lv (hl : lv = lv') (hk : zW P ex d own ini cc nL ret pc lv' st (h, t) Q) : zW P ex d own ini cc nL ret pc lv st (h, t) Q := hl ▸ hk
theorem z_topi {x y : Int32} (e : y = x) (hk : zW P ex d own ini cc nL ret pc lv (.int y :: st) (h, t) Q) : zW P ex d own ini cc nL ret pc lv (.int x :: st) (h, t) Q := e ▸ hk
theorem z_topv {x y : Value} (e : x = y) (hk : zW P ex d own ini cc nL ret pc lv (y :: st) (h, t) Q) : zW P ex d own ini cc nL ret pc lv (x :: st) (h, t) Q := e ▸ hk
theorem z_iincY {j : Nat} {n : Int} {x v y : Int32} (hd : decode cc pc = .ok (.iinc j n, 3)) (hg : ia_get lv j = some (.int x)) (hn : j < nL) (hv : Int32.ofInt n = v) (hy : y = x + v) (hl : ia_set1 lv j (.int y) = lv') (hk : zW P ex d own ini cc nL ret (pc + 3) lv' st (h, t) Q) : zW P ex d own ini cc nL ret pc lv st (h, t) Q := by
  subst hy
  exact z_iinc hd hg hn hv hl hk
theorem z_iincYW {j : Nat} {n : Int} {x v y : Int32} (hd : decode cc pc = .ok (.iinc j n, 6)) (hg : ia_get lv j = some (.int x)) (hn : j < nL) (hv : Int32.ofInt n = v) (hy : y = x + v) (hl : ia_set1 lv j (.int y) = lv') (hk : zW P ex d own ini cc nL ret (pc + 6) lv' st (h, t) Q) : zW P ex d own ini cc nL ret pc lv st (h, t) Q := by
  subst hy
  exact z_iincW hd hg hn hv hl hk
theorem z_ialoadL {S : zS} {a N i : Nat} {fds : List (Nat × Value)} {j : Int32} (hd : decode cc pc = .ok (.iaload, 1)) (hE : zE D h0 S (h, t)) (ha : D a = some (0, N, fds)) (hj : ia_in j N = true) (hi : j.toNatClampNeg = i) (kk : zW P ex d own ini cc nL ret (pc + 1) lv (.int (S.1 a i) :: st) (h, t) Q) : zW P ex d own ini cc nL ret pc lv (.int j :: .ref a :: st) (h, t) Q := by
  subst hi
  exact z_iaload hd hE ha hj kk
theorem z_iastoreL {S : zS} {a N i : Nat} {fds : List (Nat × Value)} {j y : Int32} (hd : decode cc pc = .ok (.iastore, 1)) (hE : zE D h0 S (h, t)) (ha : D a = some (0, N, fds)) (hj : ia_in j N = true) (hi : j.toNatClampNeg = i) (kk : ∀ h', zE D h0 (sV S a i y) (h', t) → zW P ex d own ini cc nL ret (pc + 1) lv st (h', t) Q) : zW P ex d own ini cc nL ret pc lv (.int y :: .int j :: .ref a :: st) (h, t) Q := by
  subst hi
  exact z_iastore hd hE ha hj kk
theorem z_callVi {b ci : Nat} {fs : List Value} {r : Int32} (hd : decode cc pc = .ok (.invokevirtual x, 3)) (ht : ia_tM P own x = some (k, 1)) (hm : ia_mt P k = some (ck, y, cc', nL', ret', np)) (hl : np ≤ st.length) (ha : (st.take np).reverse = as) (hr : st.drop np = .ref b :: rest) (hb : ia_at P h t.1 b = some (.inr (ci, fs))) (hci : ci = ck) (ho : ia_oks t.1 lv rest = true) (hc : (rest.map fun v => v.category).sum ≤ 8) (hcall : zC P d k (.ref b :: as) (h, t) (zQi D h0 t (r, S1))) (kk : ∀ h', zE D h0 S1 (h', t) → zW P ex d own ini cc nL ret (pc + 3) lv (.int r :: rest) (h', t) Q) (hx : ex pc st (h, t) = none := by rfl) : zW P ex d own ini cc nL ret pc lv st (h, t) Q := by
  refine z_callV hd ht hm hl ha hr hb hci ho hc hcall (fun v hp q => ?_) hx
  obtain ⟨h', rfl, rfl, hE⟩ := q
  exact kk h' hE
theorem z_callVv {b ci : Nat} {fs : List Value} {r : Unit} (hd : decode cc pc = .ok (.invokevirtual x, 3)) (ht : ia_tM P own x = some (k, 1)) (hm : ia_mt P k = some (ck, y, cc', nL', ret', np)) (hl : np ≤ st.length) (ha : (st.take np).reverse = as) (hr : st.drop np = .ref b :: rest) (hb : ia_at P h t.1 b = some (.inr (ci, fs))) (hci : ci = ck) (ho : ia_oks t.1 lv rest = true) (hc : (rest.map fun v => v.category).sum ≤ 8) (hcall : zC P d k (.ref b :: as) (h, t) (zQv D h0 t (r, S1))) (kk : ∀ h', zE D h0 S1 (h', t) → zW P ex d own ini cc nL ret (pc + 3) lv (rest) (h', t) Q) (hx : ex pc st (h, t) = none := by rfl) : zW P ex d own ini cc nL ret pc lv st (h, t) Q := by
  refine z_callV hd ht hm hl ha hr hb hci ho hc hcall (fun v hp q => ?_) hx
  obtain ⟨h', rfl, rfl, hE⟩ := q
  exact kk h' hE
theorem z_callVr {b ci : Nat} {fs : List Value} {r : Value} (hd : decode cc pc = .ok (.invokevirtual x, 3)) (ht : ia_tM P own x = some (k, 1)) (hm : ia_mt P k = some (ck, y, cc', nL', ret', np)) (hl : np ≤ st.length) (ha : (st.take np).reverse = as) (hr : st.drop np = .ref b :: rest) (hb : ia_at P h t.1 b = some (.inr (ci, fs))) (hci : ci = ck) (ho : ia_oks t.1 lv rest = true) (hc : (rest.map fun v => v.category).sum ≤ 8) (hcall : zC P d k (.ref b :: as) (h, t) (zQr D h0 t (r, S1))) (kk : ∀ h', zE D h0 S1 (h', t) → zW P ex d own ini cc nL ret (pc + 3) lv (r :: rest) (h', t) Q) (hx : ex pc st (h, t) = none := by rfl) : zW P ex d own ini cc nL ret pc lv st (h, t) Q := by
  refine z_callV hd ht hm hl ha hr hb hci ho hc hcall (fun v hp q => ?_) hx
  obtain ⟨h', rfl, rfl, hE⟩ := q
  exact kk h' hE
theorem z_callSi {kd : Nat} {r : Int32} (hd : decode cc pc = .ok (.invokestatic x, 3)) (ht : ia_tM P own x = some (k, kd)) (hkd : kd = 0 ∨ kd = 3) (hm : ia_mt P k = some (ck, y, cc', nL', ret', np)) (hl : np ≤ st.length) (ha : (st.take np).reverse = as) (hr : st.drop np = rest) (ho : ia_oks t.1 lv rest = true) (hc : (rest.map fun v => v.category).sum ≤ 8) (hcall : zC P d k as (h, t) (zQi D h0 t (r, S1))) (kk : ∀ h', zE D h0 S1 (h', t) → zW P ex d own ini cc nL ret (pc + 3) lv (.int r :: rest) (h', t) Q) (hx : ex pc st (h, t) = none := by rfl) : zW P ex d own ini cc nL ret pc lv st (h, t) Q := by
  refine z_callS hd ht hkd hm hl ha hr ho hc hcall (fun v hp q => ?_) hx
  obtain ⟨h', rfl, rfl, hE⟩ := q
  exact kk h' hE
theorem z_callSv {kd : Nat} {r : Unit} (hd : decode cc pc = .ok (.invokestatic x, 3)) (ht : ia_tM P own x = some (k, kd)) (hkd : kd = 0 ∨ kd = 3) (hm : ia_mt P k = some (ck, y, cc', nL', ret', np)) (hl : np ≤ st.length) (ha : (st.take np).reverse = as) (hr : st.drop np = rest) (ho : ia_oks t.1 lv rest = true) (hc : (rest.map fun v => v.category).sum ≤ 8) (hcall : zC P d k as (h, t) (zQv D h0 t (r, S1))) (kk : ∀ h', zE D h0 S1 (h', t) → zW P ex d own ini cc nL ret (pc + 3) lv (rest) (h', t) Q) (hx : ex pc st (h, t) = none := by rfl) : zW P ex d own ini cc nL ret pc lv st (h, t) Q := by
  refine z_callS hd ht hkd hm hl ha hr ho hc hcall (fun v hp q => ?_) hx
  obtain ⟨h', rfl, rfl, hE⟩ := q
  exact kk h' hE
theorem z_callSr {kd : Nat} {r : Value} (hd : decode cc pc = .ok (.invokestatic x, 3)) (ht : ia_tM P own x = some (k, kd)) (hkd : kd = 0 ∨ kd = 3) (hm : ia_mt P k = some (ck, y, cc', nL', ret', np)) (hl : np ≤ st.length) (ha : (st.take np).reverse = as) (hr : st.drop np = rest) (ho : ia_oks t.1 lv rest = true) (hc : (rest.map fun v => v.category).sum ≤ 8) (hcall : zC P d k as (h, t) (zQr D h0 t (r, S1))) (kk : ∀ h', zE D h0 S1 (h', t) → zW P ex d own ini cc nL ret (pc + 3) lv (r :: rest) (h', t) Q) (hx : ex pc st (h, t) = none := by rfl) : zW P ex d own ini cc nL ret pc lv st (h, t) Q := by
  refine z_callS hd ht hkd hm hl ha hr ho hc hcall (fun v hp q => ?_) hx
  obtain ⟨h', rfl, rfl, hE⟩ := q
  exact kk h' hE
end R
end ZW
