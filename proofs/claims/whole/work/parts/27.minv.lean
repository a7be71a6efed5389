/-! What holds between the class and the reference. -/
section MI
def valE (e : Nat → Int32) (c : Int32) : Int32 := if 2000 ≤ c then c - 2000 else e (c - 1000).toNatClampNeg
def lim64 (x : Int64) : Int32 := (if (if x < 1000000 then x else 1000000) < (-1000000) then (-1000000) else (if x < 1000000 then x else 1000000)).toInt32
def joinV (c l r : Int32) : Int32 := if c = 43 then lim64 (l.toInt64 + r.toInt64) else if c = 45 then lim64 (l.toInt64 - r.toInt64) else if c = 42 then lim64 (l.toInt64 * r.toInt64) else if c = 47 then (if r = 0 then 0 else lim64 ((l / r).toInt64))
  else if c = 61 then (if l = r then 1 else 0) else if c = 60 then (if l < r then 1 else 0) else if c = 62 then (if r < l then 1 else 0) else if c = 38 then l &&& r else l ||| r
/-- signs that stand behind what they work on, done: the height, whether a clause is skipped, the stack -/
def exA (e : Nat → Int32) : List Int32 → Nat → Bool → (Nat → Int32) → Int32
  | [], _, _, _ => 0
  | c :: cs, h, s, st => if s = true then exA e cs h (decide (c ≠ 59)) st else if c = 59 then st 0 else if c = 63 then exA e cs 0 (decide (st 0 = 0)) st
    else if 1000 ≤ c then (if h < 64 then exA e cs (h + 1) false (ru st h (valE e c)) else exA e cs h false st)
    else if c = 33 then (if 1 ≤ h then exA e cs h false (ru st (h - 1) (1 - st (h - 1))) else exA e cs h false st)
    else if 2 ≤ h then exA e cs (h - 1) false (ru st (h - 2) (joinV c (st (h - 2)) (st (h - 1)))) else exA e cs h false st
def envL (p s w i c a : Int32) : Nat → Int32 := fun k => if k = 0 then p else if k = 1 then s else if k = 2 then w else if k = 3 then i else if k = 4 then c else a
def codeW (cs : List Int32) : zLw := fun p s w i c a => exA (envL p s w i c a) cs 0 false (fun _ => 0)
def codeOk (c : Int32) : Prop := (∃ l, l < 6 ∧ c = Int32.ofNat (1000 + l)) ∨ (∃ v, v < 10000 ∧ c = Int32.ofNat (2000 + v)) ∨ c = 59 ∨ c = 63 ∨ c = 33 ∨ c = 38 ∨ c = 124 ∨ c = 42 ∨ c = 43 ∨ c = 45 ∨ c = 47 ∨ c = 60 ∨ c = 61 ∨ c = 62
def GoodCode (cs : List Int32) : Prop := (∀ c ∈ cs, codeOk c) ∧ ∀ e e' st, (∀ k, k < 6 → e' k = e k) → exA e' cs 0 false st = exA e cs 0 false (fun _ => 0)
def RowC (A : zS) (a : Nat) (cs : List Int32) : Prop := 64 ≤ a ∧ a < A.2.2.2 ∧ A.2.2.1 a = cs.length ∧ cs.length ≤ 202 ∧ ∀ (k : Nat) (h : k < cs.length), A.1 a k = cs[k]
def byteOk (x y : Int32) : Prop := ∃ v, 0 < v ∧ v < 256 ∧ x = Int32.ofNat v ∧ y = vp_nar .byte (Int32.ofNat v)
def TextR (B : zS) (i : Nat) (cs : List Int32) : Prop := ∃ n b i', n ≤ 200 ∧ B.1 44 i = Int32.ofNat n ∧ (∀ k, k < n → byteOk (b k) (B.1 43 (200 * i + k))) ∧ pLaw b n = .inr (i', cs)
def HeldC (A : zS) (W : zLw) : Prop := (A.2.1 14 2 = .null ∧ W = plainW) ∨ ∃ a cs, A.2.1 14 2 = .ref a ∧ RowC A a cs ∧ GoodCode cs ∧ W = codeW cs
def HeldR (B : zS) (W : zLw) : Prop := (B.1 41 35 = -1 ∧ W = plainW) ∨ ∃ i cs, i < 4 ∧ B.1 41 35 = Int32.ofNat i ∧ TextR B i cs ∧ W = codeW cs
def ITape (l : Int32) (x : Nat → Int32) (l' : Int32) (y : Nat → Int32) : Prop := ∃ n, n ≤ 200 ∧ l = Int32.ofNat n ∧ l' = Int32.ofNat n ∧ ∀ k, k < n → byteOk (x k) (y k)
def ToldB (nj nh nt : Nat) (jT hT tT : Nat → Int32) : Prop := nj ≤ 4 ∧ nh ≤ 6 ∧ nt ≤ 4 ∧ (nj = 0 → nh = 0 ∧ nt = 0) ∧ (0 < nj → 0 < nh) ∧
  (∀ j, j < nj → bd (jT (6 * j)) 0 99 ∧ bd (jT (6 * j + 1)) 0 99 ∧ bd (jT (6 * j + 2)) 0 9 ∧ (jT (6 * j + 3) = 0 ∨ jT (6 * j + 3) = 1) ∧ bd (jT (6 * j + 4)) 1 9 ∧ bd (jT (6 * j + 5)) 0 99) ∧
  (∀ h, h < nh → bd (hT (5 * h)) 0 99 ∧ bd (hT (5 * h + 1)) 1 9 ∧ bd (hT (5 * h + 2)) 0 9 ∧ bd (hT (5 * h + 3)) 0 9 ∧ bd (hT (5 * h + 4)) 0 9) ∧
  (∀ t, t < nt → bd (tT (2 * t)) 0 99 ∧ bd (tT (2 * t + 1)) 0 99)
def ITold (nj nh nt : Nat) (A B : zS) : Prop := A.1 12 0 = Int32.ofNat nj ∧ A.1 12 1 = Int32.ofNat nh ∧ A.1 12 2 = Int32.ofNat nt ∧ B.1 41 24 = Int32.ofNat nj ∧ B.1 41 25 = Int32.ofNat nh ∧ B.1 41 26 = Int32.ofNat nt ∧
  A.1 0 17 = (if nj = 0 then 0 else 1) ∧ (∀ k, k < 6 * nj → A.1 13 k = B.1 46 k) ∧ (∀ k, k < 5 * nh → A.1 13 (24 + k) = B.1 48 k) ∧ (∀ k, k < 2 * nt → A.1 13 (54 + k) = B.1 50 k) ∧ ToldB nj nh nt (B.1 46) (B.1 48) (B.1 50)
def IRow (jT : Nat → Int32) (nj M : Nat) (r q : Nat → Int32) : Prop := RelRow r q ∧ RowOk jT nj M r
def IUndo (jT : Nat → Int32) (nj M u : Nat) (nr su : Int32) (x : Nat → Int32) (su' : Int32) (y : Nat → Int32) : Prop := ∃ r, r < 40 ∧ u ≤ 40 ∧ nr = Int32.ofNat r ∧ su = Int32.ofNat u ∧ su' = Int32.ofNat u ∧
  ∀ i, i < u → IRow jT nj M (fun k => x (66 * ((r + 39 - i) % 40) + k)) (fun k => y (66 * (u - 1 - i) + k))
def ILog (d u : Nat) (nn sl : Int32) (w m : Nat → Int32) (sl' : Int32) (w' m' : Nat → Int32) : Prop := ∃ r l, r < 60 ∧ l ≤ 60 ∧ u ≤ l + d ∧ nn = Int32.ofNat r ∧ sl = Int32.ofNat l ∧ sl' = Int32.ofNat l ∧
  ∀ i, i < l → w ((r + 59 - i) % 60) = w' (l - 1 - i) ∧ m ((r + 59 - i) % 60) = m' (l - 1 - i)
def IGuess (c o : Int32) (g : Nat → Int32) (c' : Int32) (g' o' : Nat → Int32) : Prop := ∃ n, n ≤ 20 ∧ c = Int32.ofNat n ∧ c' = Int32.ofNat n ∧ (∀ i, i < n → g i = g' i ∧ bd (g i) 0 999 ∧ (o' i = 0 ∨ o' i = 1)) ∧ (∀ i, i + 1 < n → o' i = 0) ∧ o = (if n = 0 then 0 else o' (n - 1))
def IImg (jT : Nat → Int32) (nj M : Nat) (f : Int32) (x : Nat → Int32) (f' : Int32) (y : Nat → Int32) : Prop := f = f' ∧ (f = 0 ∨ f = 1 ∧ IRow jT nj M x y)
def stepOk (c : Int32) : Prop := (∃ v, v < 5 ∧ c = Int32.ofNat v) ∨ (∃ h, h < 10 ∧ c = Int32.ofNat (10 + h)) ∨ ∃ h t, h < 10 ∧ t < 10 ∧ c = Int32.ofNat (100 + 10 * h + t)
def IPlans (A B : zS) : Prop := ∃ np, np ≤ 4 ∧ A.1 0 15 = Int32.ofNat np ∧ B.1 41 32 = Int32.ofNat np ∧ ∀ p, p < np → ∃ a m, A.2.1 40 p = .ref a ∧ 64 ≤ a ∧ a < A.2.2.2 ∧ 1 ≤ m ∧ m ≤ 16 ∧ A.2.2.1 a = m ∧ B.1 53 p = Int32.ofNat m ∧ ∀ i, i < m → A.1 a i = B.1 52 (16 * p + i) ∧ stepOk (A.1 a i)
def ILaws (A B : zS) : Prop := ∃ nl, nl ≤ 4 ∧ A.1 0 14 = Int32.ofNat nl ∧ B.1 41 7 = Int32.ofNat nl ∧ (∀ i, i < nl → ∃ a cs, A.2.1 39 i = .ref a ∧ RowC A a cs ∧ GoodCode cs ∧ TextR B i cs) ∧
  ((A.1 0 16 = -1 ∧ B.1 41 35 = -1) ∨ ∃ i, i < nl ∧ A.1 0 16 = Int32.ofNat i ∧ B.1 41 35 = Int32.ofNat i)
def InvD (d M nj nh nt : Nat) (A B : zS) : Prop := ∃ u, ITold nj nh nt A B ∧ ITape (A.1 1 1) (A.1 2) (B.1 41 6) (B.1 42) ∧ (∃ W, HeldC A W ∧ HeldR B W) ∧ ILaws A B ∧ IPlans A B ∧ IRow (B.1 46) nj M (A.1 18) (B.1 54) ∧
  IUndo (B.1 46) nj M u (A.1 21 5) (A.1 21 6) (A.1 22) (B.1 41 39) (B.1 56) ∧ ILog d u (A.1 21 7) (A.1 21 8) (A.1 23) (A.1 24) (B.1 41 40) (B.1 57) (B.1 58) ∧
  IGuess (A.1 37 1) (A.1 37 2) (A.1 38) (B.1 41 50) (B.1 60) (B.1 61) ∧ IImg (B.1 46) nj M (A.1 21 4) (A.1 25) (B.1 41 53) (B.1 62) ∧ True ∧ 64 ≤ A.2.2.2 ∧ (∃ x, A.2.1 0 18 = .long x) ∧ (∃ x, B.2.1 41 51 = .long x)
def Inv (M : Nat) (A B : zS) : Prop := ∃ nj nh nt, InvD 0 M nj nh nt A B
/-- nothing that can be seen has changed: the class, the reference -/
def obsC (A A' : zS) : Prop := (∀ b, b = 0 ∨ b = 2 ∨ b = 12 ∨ b = 13 ∨ b = 18 ∨ b = 21 ∨ b = 22 ∨ b = 23 ∨ b = 24 ∨ b = 25 ∨ b = 37 ∨ b = 38 ∨ 64 ≤ b → A'.1 b = A.1 b) ∧ A'.1 1 1 = A.1 1 1 ∧ A'.2.2 = A.2.2 ∧ (∀ b k, (b = 14 ∨ b = 39 ∨ b = 40) → A'.2.1 b k = A.2.1 b k) ∧ ∃ x, A'.2.1 0 18 = .long x
def obsR (B B' : zS) : Prop := (∀ b, b = 42 ∨ b = 43 ∨ b = 44 ∨ b = 46 ∨ b = 48 ∨ b = 50 ∨ b = 54 ∨ b = 56 ∨ b = 57 ∨ b = 58 ∨ b = 60 ∨ b = 61 ∨ b = 62 → B'.1 b = B.1 b) ∧ (∀ k, k = 6 ∨ k = 7 ∨ k = 24 ∨ k = 25 ∨ k = 26 ∨ k = 32 ∨ k = 35 ∨ k = 39 ∨ k = 40 ∨ k = 50 ∨ k = 53 → B'.1 41 k = B.1 41 k) ∧ (∀ k, k < 64 → B'.1 52 k = B.1 52 k) ∧ (∀ k, k < 4 → B'.1 53 k = B.1 53 k) ∧ B'.2.2 = B.2.2 ∧ ∃ x, B'.2.1 41 51 = .long x
theorem obsC.tr {A B C : zS} (h1 : obsC A B) (h2 : obsC B C) : obsC A C := ⟨fun b h => (h2.1 b h).trans (h1.1 b h), h2.2.1.trans h1.2.1, h2.2.2.1.trans h1.2.2.1, fun b k h => (h2.2.2.2.1 b k h).trans (h1.2.2.2.1 b k h), h2.2.2.2.2⟩
theorem obsR.tr {A B C : zS} (h1 : obsR A B) (h2 : obsR B C) : obsR A C := ⟨fun b h => (h2.1 b h).trans (h1.1 b h), fun b h => (h2.2.1 b h).trans (h1.2.1 b h), fun k h => (h2.2.2.1 k h).trans (h1.2.2.1 k h), fun k h => (h2.2.2.2.1 k h).trans (h1.2.2.2.1 k h), h2.2.2.2.2.1.trans h1.2.2.2.2.1, h2.2.2.2.2.2⟩
theorem RowC.of {A A' : zS} {a : Nat} {cs : List Int32} (H : RowC A a cs) (h1 : A'.1 a = A.1 a) (h2 : A'.2.2 = A.2.2) : RowC A' a cs := by
  obtain ⟨x1, x2, x3, x4, x5⟩ := H
  exact ⟨x1, by rw [h2]; exact x2, by rw [h2]; exact x3, x4, fun k h => by rw [h1]; exact x5 k h⟩
theorem TextR.of {B B' : zS} {i : Nat} {cs : List Int32} (H : TextR B i cs) (h1 : B'.1 43 = B.1 43) (h2 : B'.1 44 = B.1 44) : TextR B' i cs := by
  unfold TextR
  rw [h1, h2]
  exact H
theorem HeldC.of {A A' : zS} {W : zLw} (H : HeldC A W) (h1 : A'.2.1 14 2 = A.2.1 14 2) (h2 : A'.2.2 = A.2.2) (h3 : ∀ b, 64 ≤ b → A'.1 b = A.1 b) : HeldC A' W := by
  rcases H with ⟨x, y⟩ | ⟨a, cs, x1, x2, x3, x4⟩
  · exact Or.inl ⟨h1.trans x, y⟩
  · exact Or.inr ⟨a, cs, h1.trans x1, x2.of (h3 a x2.1) h2, x3, x4⟩
theorem HeldR.of {B B' : zS} {W : zLw} (H : HeldR B W) (h1 : B'.1 41 35 = B.1 41 35) (h2 : B'.1 43 = B.1 43) (h3 : B'.1 44 = B.1 44) : HeldR B' W := by
  rcases H with ⟨x, y⟩ | ⟨i, cs, x0, x1, x2, x3⟩
  · exact Or.inl ⟨h1.trans x, y⟩
  · exact Or.inr ⟨i, cs, x0, h1.trans x1, x2.of h2 h3, x3⟩
theorem ILaws.of {A A' B B' : zS} (H : ILaws A B) (h1 : A'.1 0 14 = A.1 0 14) (h1b : A'.1 0 16 = A.1 0 16) (h2 : A'.2.2 = A.2.2) (h3 : ∀ b, 64 ≤ b → A'.1 b = A.1 b) (h4 : ∀ k, A'.2.1 39 k = A.2.1 39 k) (g1 : B'.1 41 7 = B.1 41 7) (g2 : B'.1 41 35 = B.1 41 35) (g3 : B'.1 43 = B.1 43) (g4 : B'.1 44 = B.1 44) : ILaws A' B' := by
  obtain ⟨nl, x0, x1, x2, x3, x4⟩ := H
  refine ⟨nl, x0, h1.trans x1, g1.trans x2, fun i hi => ?_, ?_⟩
  · obtain ⟨a, cs, y1, y2, y3, y4⟩ := x3 i hi
    exact ⟨a, cs, (h4 i).trans y1, y2.of (h3 a y2.1) h2, y3, y4.of g3 g4⟩
  · rw [h1b, g2]
    exact x4
theorem IPlans.of {A A' B B' : zS} (H : IPlans A B) (h1 : A'.1 0 15 = A.1 0 15) (h2 : A'.2.2 = A.2.2) (h3 : ∀ b, 64 ≤ b → A'.1 b = A.1 b) (h4 : ∀ k, A'.2.1 40 k = A.2.1 40 k) (g1 : B'.1 41 32 = B.1 41 32) (g2 : ∀ k, k < 64 → B'.1 52 k = B.1 52 k) (g3 : ∀ k, k < 4 → B'.1 53 k = B.1 53 k) : IPlans A' B' := by
  obtain ⟨np, x0, x1, x2, x3⟩ := H
  refine ⟨np, x0, h1.trans x1, g1.trans x2, fun p hp => ?_⟩
  obtain ⟨a, m, y1, y2, y3, y4, y5, y6, y7, y8⟩ := x3 p hp
  refine ⟨a, m, (h4 p).trans y1, y2, by rw [h2]; exact y3, y4, y5, by rw [h2]; exact y6, by rw [g3 p (by omega)]; exact y7, fun i hi => ?_⟩
  rw [h3 a y2, g2 (16 * p + i) (by omega)]
  exact y8 i hi
theorem InvD.obs {d M nj nh nt : Nat} {A A' B B' : zS} (H : InvD d M nj nh nt A B) (hA : obsC A A') (hB : obsR B B') : InvD d M nj nh nt A' B' := by
  obtain ⟨u, h1, h2, ⟨W, h3, h3'⟩, h4, h5, h6, h7, h8, h9, h10, h11, h12, h13, h14⟩ := H
  obtain ⟨a1, a2, a3, a4, a5⟩ := hA
  obtain ⟨b1, b2, b3, b4, b5, b6⟩ := hB
  have r0 := a1 0 (by omega); have r2 := a1 2 (by omega); have r12 := a1 12 (by omega); have r13 := a1 13 (by omega); have r18 := a1 18 (by omega); have r21 := a1 21 (by omega); have r22 := a1 22 (by omega); have r23 := a1 23 (by omega); have r24 := a1 24 (by omega); have r25 := a1 25 (by omega); have r37 := a1 37 (by omega); have r38 := a1 38 (by omega)
  have q42 := b1 42 (by omega); have q43 := b1 43 (by omega); have q44 := b1 44 (by omega); have q46 := b1 46 (by omega); have q48 := b1 48 (by omega); have q50 := b1 50 (by omega); have q54 := b1 54 (by omega); have q56 := b1 56 (by omega); have q57 := b1 57 (by omega); have q58 := b1 58 (by omega); have q60 := b1 60 (by omega); have q61 := b1 61 (by omega); have q62 := b1 62 (by omega)
  refine ⟨u, ?_, ?_, ⟨W, h3.of (a4 14 2 (by omega)) a3 (fun b hb => a1 b (by omega)), h3'.of (b2 35 (by omega)) q43 q44⟩, h4.of (by rw [r0]) (by rw [r0]) a3 (fun b hb => a1 b (by omega)) (fun k => a4 39 k (by omega)) (b2 7 (by omega)) (b2 35 (by omega)) q43 q44, h5.of (by rw [r0]) a3 (fun b hb => a1 b (by omega)) (fun k => a4 40 k (by omega)) (b2 32 (by omega)) b3 b4, ?_, ?_, ?_, ?_, ?_, ?_, ?_, a5, b6⟩
  · unfold ITold
    rw [r0, r12, r13, q46, q48, q50, b2 24 (by omega), b2 25 (by omega), b2 26 (by omega)]
    exact h1
  · rw [a2, r2, q42, b2 6 (by omega)]
    exact h2
  · rw [r18, q54, q46]
    exact h6
  · rw [r21, r22, q46, q56, b2 39 (by omega)]
    exact h7
  · rw [r21, r23, r24, q57, q58, b2 40 (by omega)]
    exact h8
  · rw [r37, r38, q60, q61, b2 50 (by omega)]
    exact h9
  · rw [r21, r25, q46, q62, b2 53 (by omega)]
    exact h10
  · trivial
  · rw [a3]
    exact h12
theorem IRow.mono {jT : Nat → Int32} {nj M M' : Nat} {r q : Nat → Int32} (H : IRow jT nj M r q) (h : M ≤ M') : IRow jT nj M' r q := ⟨H.1, H.2.mono h⟩
theorem InvD.mono {d M M' nj nh nt : Nat} {A B : zS} (H : InvD d M nj nh nt A B) (h : M ≤ M') : InvD d M' nj nh nt A B := by
  obtain ⟨u, h1, h2, h3, h4, h5, h6, ⟨r, x1, x2, x3, x4, x5, x6⟩, h8, h9, ⟨y1, y2⟩, h11⟩ := H
  exact ⟨u, h1, h2, h3, h4, h5, h6.mono h, ⟨r, x1, x2, x3, x4, x5, fun i hi => (x6 i hi).mono h⟩, h8, h9, ⟨y1, y2.imp id (fun z => ⟨z.1, z.2.mono h⟩)⟩, h11⟩
/-- a new scene -/
theorem InvD.scene {d M M' nj nh nt : Nat} {A B : zS} (H : InvD d M nj nh nt A B) (h : M ≤ M') {r q : Nat → Int32} (hr : IRow (B.1 46) nj M' r q) : InvD d M' nj nh nt (sR A 18 r) (sR B 54 q) := by
  obtain ⟨u, h1, h2, ⟨W, w1, w2⟩, h4, h5, h6, h7, h8, h9, h10, h11, h12, h13, h14⟩ := H.mono h
  refine ⟨u, h1, h2, ⟨W, w1.of rfl rfl (fun b hb => sR_ne _ _ (by omega)), w2.of rfl rfl rfl⟩, h4.of rfl rfl rfl (fun b hb => sR_ne _ _ (by omega)) (fun _ => rfl) rfl rfl rfl rfl, h5.of rfl rfl (fun b hb => sR_ne _ _ (by omega)) (fun _ => rfl) rfl (fun _ _ => rfl) (fun _ _ => rfl), ?_, h7, h8, h9, h10, h11, h12, h13, h14⟩
  rw [sR_at, sR_at]
  exact hr
end MI
