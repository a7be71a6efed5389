/-! Laws: a plain reader of a text (b: its signs, n: how many) into signs that stand behind what they work on. -/
section MH
abbrev zPR : Type := Nat ⊕ (Nat × List Int32)
def pB (m : zPR) (f : Nat → List Int32 → zPR) : zPR := match m with
  | .inl e => .inl e
  | .inr (i, c) => f i c
def skp (b : Nat → Int32) (n : Nat) : Nat → Nat → Nat
  | 0, i => i
  | f + 1, i => if i < n ∧ b i = 32 then skp b n f (i + 1) else i
/-- behind blanks -/
def sk (b : Nat → Int32) (n i : Nat) : Nat := skp b n (n - i) i
def pk (b : Nat → Int32) (n i : Nat) : Int32 := if sk b n i < n then b (sk b n i) else 0
def pnum (b : Nat → Int32) (n : Nat) : Nat → Nat → Int32 → Nat × Int32
  | 0, i, v => (i, v)
  | d + 1, i, v => if i < n ∧ 48 ≤ b i ∧ b i ≤ 57 then pnum b n d (i + 1) (v * 10 + b i - 48) else (i, v)
def letR (s : Int32) : Option Nat := if s = 112 then some 0 else if s = 115 then some 1 else if s = 119 then some 2 else if s = 105 then some 3 else if s = 99 then some 4 else if s = 97 then some 5 else none
section P
variable (b : Nat → Int32) (n : Nat)
def pNeed (x : Int32) (i : Nat) (c : List Int32) : zPR := if pk b n i = x then .inr (sk b n i + 1, c) else .inl (sk b n i)
def pAtom (hub : Nat → Nat → zPR) (w i : Nat) : zPR :=
  if 48 ≤ pk b n i ∧ pk b n i ≤ 57 then
    (if (pnum b n 4 (sk b n i) 0).1 < n ∧ 48 ≤ b (pnum b n 4 (sk b n i) 0).1 ∧ b (pnum b n 4 (sk b n i) 0).1 ≤ 57 then .inl (pnum b n 4 (sk b n i) 0).1
    else .inr ((pnum b n 4 (sk b n i) 0).1, [2000 + (pnum b n 4 (sk b n i) 0).2]))
  else match letR (pk b n i) with
    | some l => .inr (sk b n i + 1, [1000 + Int32.ofNat l])
    | none => if pk b n i = 91 then (if w < 6 then pB (hub (w + 1) (sk b n i + 1)) (fun i' c => pNeed b n 93 i' c) else .inl (sk b n i)) else .inl (sk b n i)
def pTermL (hub : Nat → Nat → zPR) (w : Nat) : Nat → Nat → List Int32 → zPR
  | 0, i, _ => .inl i
  | k + 1, i, c => if pk b n i = 42 ∨ pk b n i = 47 then pB (pAtom b n hub w (sk b n i + 1)) (fun i' c' => pTermL hub w k i' (c ++ c' ++ [pk b n i])) else .inr (sk b n i, c)
def pTerm (hub : Nat → Nat → zPR) (w i : Nat) : zPR := pB (pAtom b n hub w i) (fun i' c => pTermL b n hub w 200 i' c)
def pSumL (hub : Nat → Nat → zPR) (w : Nat) : Nat → Nat → List Int32 → zPR
  | 0, i, _ => .inl i
  | k + 1, i, c => if pk b n i = 43 ∨ pk b n i = 45 then pB (pTerm b n hub w (sk b n i + 1)) (fun i' c' => pSumL hub w k i' (c ++ c' ++ [pk b n i])) else .inr (sk b n i, c)
def pSumO (hub : Nat → Nat → zPR) (w i : Nat) : zPR := pB (pTerm b n hub w i) (fun i' c => pSumL b n hub w 200 i' c)
def pSumG : Nat → Nat → Nat → zPR
  | 0 => fun _ i => .inl i
  | g + 1 => pSumO b n (pSumG g)
def pSum (w i : Nat) : zPR := pSumO b n (pSumG b n 16) w i
def pRel (w i : Nat) (c : List Int32) : zPR := if pk b n i = 61 ∨ pk b n i = 60 ∨ pk b n i = 62 then pB (pSum b n w (sk b n i + 1)) (fun i' c' => .inr (i', c ++ c' ++ [pk b n i])) else .inl (sk b n i)
def pUnitsL (hub : Nat → Nat → zPR) (w : Nat) : Nat → Nat → List Int32 → zPR
  | 0, i, _ => .inl i
  | k + 1, i, c => if pk b n i = 38 then pB (hub w (sk b n i + 1)) (fun i' c' => pUnitsL hub w k i' (c ++ c' ++ [38])) else .inr (sk b n i, c)
def pTruth (hub : Nat → Nat → zPR) (w i : Nat) : zPR := pB (hub w i) (fun i' c => pUnitsL b n hub w 200 i' c)
def pTruthsL (hub : Nat → Nat → zPR) (w : Nat) : Nat → Nat → List Int32 → zPR
  | 0, i, _ => .inl i
  | k + 1, i, c => if pk b n i = 124 then pB (pTruth b n hub w (sk b n i + 1)) (fun i' c' => pTruthsL hub w k i' (c ++ c' ++ [124])) else .inr (sk b n i, c)
def pCond (hub : Nat → Nat → zPR) (w i : Nat) : zPR := pB (pTruth b n hub w i) (fun i' c => pTruthsL b n hub w 200 i' c)
def pUnitO (hub : Nat → Nat → zPR) (w i : Nat) : zPR :=
  if pk b n i = 33 then (if w < 6 then pB (hub (w + 1) (sk b n i + 1)) (fun i' c => .inr (i', c ++ [33])) else .inl (sk b n i))
  else if pk b n i = 40 then (if w < 6 then pB (pCond b n hub (w + 1) (sk b n i + 1)) (fun i' c => pNeed b n 41 i' c) else .inl (sk b n i))
  else pB (pSum b n w (sk b n i)) (fun i' c => pRel b n w i' c)
def pUnitG : Nat → Nat → Nat → zPR
  | 0 => fun _ i => .inl i
  | g + 1 => pUnitO b n (pUnitG g)
def pTail (i : Nat) (c : List Int32) : zPR := pB (pNeed b n 63 i c) (fun i' c' => pB (pSum b n 0 i') (fun i2 c2 => .inr (i2, c' ++ [63] ++ c2 ++ [59])))
def pClause (i : Nat) : zPR := pB (pNeed b n 121 i []) (fun i1 _ => pB (pNeed b n 58 i1 []) (fun i2 _ =>
  if pk b n i2 = 33 ∨ pk b n i2 = 40 then pB (pCond b n (pUnitG b n 16) 0 (sk b n i2)) (fun i3 c => pTail b n i3 c)
  else pB (pSum b n 0 (sk b n i2)) (fun i3 c => if pk b n i3 = 61 ∨ pk b n i3 = 60 ∨ pk b n i3 = 62 then
      pB (pRel b n 0 (sk b n i3) c) (fun i4 c4 => pB (pUnitsL b n (pUnitG b n 16) 0 200 i4 c4) (fun i5 c5 => pB (pTruthsL b n (pUnitG b n 16) 0 200 i5 c5) (fun i6 c6 => pTail b n i6 c6)))
    else .inr (sk b n i3, c ++ [59]))))
def pClauses : Nat → Nat → List Int32 → zPR
  | 0, i, _ => .inl i
  | k + 1, i, c => pB (pClause b n i) (fun i' c' => if pk b n i' = 59 then pClauses k (sk b n i' + 1) (c ++ c') else if sk b n i' < n then .inl (sk b n i') else .inr (sk b n i', c ++ c'))
/-- a law's text: its first wrong sign, or its signs -/
def pLaw : zPR := pClauses b n 200 0 []
end P
end MH
