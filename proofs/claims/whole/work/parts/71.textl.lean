/-! text: a law, a plan kept; the whole. -/
section QH
variable {M nj nh nt : Nat} {A B : zS}
theorem nar_nar : ∀ v, v < 256 → vp_nar .byte (vp_nar .byte (Int32.ofNat v)) = vp_nar .byte (Int32.ofNat v) := by decide +kernel
theorem byteOk.nar {x y : Int32} (h : byteOk x y) : byteOk x (vp_nar .byte y) := by
  obtain ⟨v, v0, v1, rfl, rfl⟩ := h
  exact ⟨v, v0, v1, rfl, nar_nar v v1⟩
/-- what a side leaves as it was when a row is made -/
def upA (A A' : zS) : Prop := (∀ b, b ≠ 0 → b ≠ 1 → b < A.2.2.2 → A'.1 b = A.1 b) ∧ (∀ k, k ≠ 14 → k ≠ 15 → A'.1 0 k = A.1 0 k) ∧ (∀ b, b < A.2.2.2 → A'.2.2.1 b = A.2.2.1 b) ∧ A'.2.2.2 = A.2.2.2 + 1 ∧ ∀ b k, b ≠ 39 → b ≠ 40 → A'.2.1 b k = A.2.1 b k
theorem TextR.up {B' : zS} {i : Nat} {cs : List Int32} (H : TextR B i cs) (h1 : ∀ k, k < 200 → B'.1 43 (200 * i + k) = B.1 43 (200 * i + k)) (h2 : B'.1 44 i = B.1 44 i) : TextR B' i cs := by
  obtain ⟨n, b, i', x1, x2, x3, x4⟩ := H
  exact ⟨n, b, i', x1, by rw [h2]; exact x2, fun k hk => by rw [h1 k (by omega)]; exact x3 k hk, x4⟩
theorem InvD.made {A' B' : zS} (H : InvD 0 M nj nh nt A B) (u : upA A A') (h1 : A'.1 1 1 = 0) (b6 : B'.1 41 6 = 0) (bo : ∀ b, b ≠ 41 → b ≠ 43 → b ≠ 44 → b ≠ 52 → b ≠ 53 → B'.1 b = B.1 b) (b41 : ∀ k, k ≠ 6 → k ≠ 7 → k ≠ 32 → B'.1 41 k = B.1 41 k) (bk : B'.2.1 = B.2.1)
    (hR : ∀ W, HeldR B W → HeldR B' W) (hL : ILaws A' B') (hP : IPlans A' B') : InvD 0 M nj nh nt A' B' := by
  obtain ⟨u1, u2, u3, u4, u5⟩ := u
  obtain ⟨w, h1', h2, ⟨W, w1, w2⟩, h4, h5, h6, h7, h8, h9, h10, h11, h12, ⟨x, h13⟩, ⟨y, h14⟩⟩ := H
  have r : ∀ b, b ≠ 0 → b ≠ 1 → b < 64 → A'.1 b = A.1 b := fun b x1 x2 x3 => u1 b x1 x2 (by omega)
  have q : ∀ b, b ≠ 41 → b ≠ 43 → b ≠ 44 → b ≠ 52 → b ≠ 53 → B'.1 b = B.1 b := bo
  refine ⟨w, ?_, ⟨0, by omega, h1, b6, fun k hk => by omega⟩, ⟨W, ?_, hR W w2⟩, hL, hP, ?_, ?_, ?_, ?_, ?_, trivial, by omega, ⟨x, by rw [u5 0 18 (by decide) (by decide)]; exact h13⟩, ⟨y, by rw [bk]; exact h14⟩⟩
  · unfold ITold
    rw [r 12 (by decide) (by decide) (by decide), r 13 (by decide) (by decide) (by decide), u2 17 (by decide) (by decide), q 46 (by decide) (by decide) (by decide) (by decide) (by decide), q 48 (by decide) (by decide) (by decide) (by decide) (by decide), q 50 (by decide) (by decide) (by decide) (by decide) (by decide), b41 24 (by decide) (by decide) (by decide), b41 25 (by decide) (by decide) (by decide), b41 26 (by decide) (by decide) (by decide)]
    exact h1'
  · rcases w1 with ⟨z1, z2⟩ | ⟨a, cs, z1, z2, z3, z4⟩
    · exact Or.inl ⟨by rw [u5 14 2 (by decide) (by decide)]; exact z1, z2⟩
    · have l1 := z2.1
      have l2 := z2.2.1
      exact Or.inr ⟨a, cs, by rw [u5 14 2 (by decide) (by decide)]; exact z1, z2.up (u1 a (by omega) (by omega) l2) (u3 a l2) (by omega), z3, z4⟩
  · rw [r 18 (by decide) (by decide) (by decide), q 46 (by decide) (by decide) (by decide) (by decide) (by decide), q 54 (by decide) (by decide) (by decide) (by decide) (by decide)]
    exact h6
  · rw [r 21 (by decide) (by decide) (by decide), r 22 (by decide) (by decide) (by decide), q 46 (by decide) (by decide) (by decide) (by decide) (by decide), q 56 (by decide) (by decide) (by decide) (by decide) (by decide), b41 39 (by decide) (by decide) (by decide)]
    exact h7
  · rw [r 21 (by decide) (by decide) (by decide), r 23 (by decide) (by decide) (by decide), r 24 (by decide) (by decide) (by decide), q 57 (by decide) (by decide) (by decide) (by decide) (by decide), q 58 (by decide) (by decide) (by decide) (by decide) (by decide), b41 40 (by decide) (by decide) (by decide)]
    exact h8
  · rw [r 37 (by decide) (by decide) (by decide), r 38 (by decide) (by decide) (by decide), q 60 (by decide) (by decide) (by decide) (by decide) (by decide), q 61 (by decide) (by decide) (by decide) (by decide) (by decide), b41 50 (by decide) (by decide) (by decide)]
    exact h9
  · rw [r 21 (by decide) (by decide) (by decide), r 25 (by decide) (by decide) (by decide), q 46 (by decide) (by decide) (by decide) (by decide) (by decide), q 62 (by decide) (by decide) (by decide) (by decide) (by decide), b41 53 (by decide) (by decide) (by decide)]
    exact h10
theorem text_law (H : InvD 0 M nj nh nt A B) {nl : Nat} (l1 : A.1 0 14 = Int32.ofNat nl) (l2 : B.1 41 7 = Int32.ofNat nl) (ll : nl < 4) {n i' : Nat} {cs : List Int32} {b : Nat → Int32} (n2 : n ≤ 200) (h6 : B.1 41 6 = Int32.ofNat n) (ht : ∀ k, k < n → byteOk (b k) (B.1 42 k)) (hp : pLaw b n = .inr (i', cs)) (hS : StI cs) (hc : cs.length ≤ n) (c7 : A.1 7 2 = Int32.ofNat cs.length) (c8 : ∀ (k : Nat) (h : k < cs.length), A.1 8 k = cs[k]) :
    ∃ A' B', f_X11_keepLaw A = some (Int32.ofNat nl, A') ∧ f_X12_text_L71 (fun (q94 : Int32) (S93 : zS) => if ia_in (S93.1 41 7) 4 = true then zl (sV S93 44 ((S93.1 41 7).toNatClampNeg) (B.1 41 6)) fun S96 => zl (sV S96 41 7 ((S96.1 41 7) + 1)) fun S97 => some ((S97.1 41 7) - 1, S97) else none) 1 (B.1 41 6) zN 0 (sV B 41 6 0) = some (Int32.ofNat nl, B') ∧ A'.2.2.2 = A.2.2.2 + 1 ∧ InvD 0 M nj nh nt A' B' := by
  have H' := H
  obtain ⟨w, h1', h2, ⟨W, w1, w2⟩, ⟨nl2, m0, m1, m2, m3, m4⟩, h5, h6', h7, h8, h9, h10, h11, h12, -⟩ := H'
  have e2 : nl2 = nl := (io_eq (by omega) (by omega)).mp (m1.symm.trans l1)
  subst e2
  have tc := ti_nat (n := cs.length) (by omega)
  obtain ⟨A', eA⟩ : ∃ A', A' = sV (sV (sK (sN A (cpRow (A.1 8) 202 cs.length) cs.length) 39 nl2 (.ref A.2.2.2)) 0 14 (Int32.ofNat (nl2 + 1))) 1 1 0 := ⟨_, rfl⟩
  have gA : ∀ b k, A'.1 b k = if b = 1 ∧ k = 1 then 0 else if b = 0 ∧ k = 14 then Int32.ofNat (nl2 + 1) else if b = A.2.2.2 then cpRow (A.1 8) 202 cs.length k else A.1 b k := by
    intro b k
    rw [eA, sV_g, sV_g, sK_1]
    by_cases c : b = A.2.2.2
    · subst c
      rw [sN_at, if_pos rfl]
    · rw [sN_ne _ _ _ c, if_neg c]
  have kA : ∀ b k, A'.2.1 b k = if b = 39 ∧ k = nl2 then .ref A.2.2.2 else A.2.1 b k := by
    intro b k
    rw [eA]
    exact sK_g _ _ _ _ b k
  have lA : ∀ b, A'.2.2.1 b = if b = A.2.2.2 then cs.length else A.2.2.1 b := fun b => by rw [eA]; rfl
  have nA : A'.2.2.2 = A.2.2.2 + 1 := by rw [eA]; rfl
  have cl : f_X11_keepLaw A = some (Int32.ofNat nl2, A') := by
    unfold f_X11_keepLaw
    have x0 : ((sK (sN A (cpRow (A.1 8) 202 cs.length) cs.length) 39 nl2 (.ref A.2.2.2)).1 0 14) + 1 = Int32.ofNat (nl2 + 1) := by
      rw [sK_1, sN_ne _ _ _ (by omega), l1, io_sc]
    rw [l1, c7, if_pos (show Int32.ofNat nl2 < 4 from (io_lt (b := 4) (by omega) (by omega)).mpr ll), if_pos ⟨io_in (by omega) (by omega), by rw [tc]; omega, by rw [tc]; omega⟩, io_cl (by omega), io_cl (by omega), zlE, zlE, zlE, zlE, x0, ← eA]
    rw [show A'.1 0 14 = Int32.ofNat (nl2 + 1) by rw [gA, if_neg (by decide), if_pos ⟨rfl, rfl⟩], io_mm (by omega)]
    rfl
  have b7 : (sV B 41 6 0).1 41 7 = Int32.ofNat nl2 := by rw [sV_g, if_neg (by decide)]; exact l2
  obtain ⟨r, o1, o2, o3⟩ := t_L71 (i1 := 1) ll n2 (fun (q94 : Int32) (S93 : zS) => if ia_in (S93.1 41 7) 4 = true then zl (sV S93 44 ((S93.1 41 7).toNatClampNeg) (B.1 41 6)) fun S96 => zl (sV S96 41 7 ((S96.1 41 7) + 1)) fun S97 => some ((S97.1 41 7) - 1, S97) else none) n 0 zN (sV B 41 6 0) b7 (by omega) (by unfold zN; omega)
  obtain ⟨B', eB⟩ : ∃ B', B' = sV (sV (sR (sV B 41 6 0) 43 r) 44 nl2 (Int32.ofNat n)) 41 7 (Int32.ofNat (nl2 + 1)) := ⟨_, rfl⟩
  have rb : f_X12_text_L71 (fun (q94 : Int32) (S93 : zS) => if ia_in (S93.1 41 7) 4 = true then zl (sV S93 44 ((S93.1 41 7).toNatClampNeg) (B.1 41 6)) fun S96 => zl (sV S96 41 7 ((S96.1 41 7) + 1)) fun S97 => some ((S97.1 41 7) - 1, S97) else none) 1 (B.1 41 6) zN 0 (sV B 41 6 0) = some (Int32.ofNat nl2, B') := by
    have z7 : (sR (sV B 41 6 0) 43 r).1 41 7 = Int32.ofNat nl2 := by rw [sR_ne _ _ (by decide)]; exact b7
    have z8 : (sV (sR (sV B 41 6 0) 43 r) 44 nl2 (Int32.ofNat n)).1 41 7 = Int32.ofNat nl2 := by rw [sV_g, if_neg (fun q => absurd q.1 (by decide))]; exact z7
    rw [h6] at o1 ⊢
    refine o1.trans ?_
    rw [z7, if_pos (io_in (by omega) (by omega)), io_cl (by omega), zlE, zlE, z8, io_sc, ← eB]
    rw [show B'.1 41 7 = Int32.ofNat (nl2 + 1) by rw [eB, sV_g, if_pos ⟨rfl, rfl⟩], io_mm (by omega)]
    rfl
  have g43 : B'.1 43 = r := by
    rw [eB, sV_eq, sR_ne _ _ (by decide), sV_eq, sR_ne _ _ (by decide), sR_at]
  have g44 : ∀ k, B'.1 44 k = if k = nl2 then Int32.ofNat n else B.1 44 k := fun k => by
    rw [eB, sV_g, if_neg (fun q => absurd q.1 (by decide)), sV_g]
    by_cases c : k = nl2
    · rw [if_pos ⟨rfl, c⟩, if_pos c]
    · rw [if_neg (fun q => c q.2), if_neg c, sR_ne _ _ (by decide), sV_g, if_neg (fun q => absurd q.1 (by decide))]
  have g41 : ∀ k, B'.1 41 k = if k = 7 then Int32.ofNat (nl2 + 1) else if k = 6 then 0 else B.1 41 k := fun k => by
    rw [eB, sV_g]
    by_cases c : k = 7
    · rw [if_pos ⟨rfl, c⟩, if_pos c]
    · rw [if_neg (fun q => c q.2), if_neg c, sV_g, if_neg (fun q => absurd q.1 (by decide)), sR_ne _ _ (by decide), sV_g]
      by_cases c6 : k = 6
      · rw [if_pos ⟨rfl, c6⟩, if_pos c6]
      · rw [if_neg (fun q => c6 q.2), if_neg c6]
  have gB : ∀ b, b ≠ 41 → b ≠ 43 → b ≠ 44 → B'.1 b = B.1 b := fun b x1 x2 x3 => by
    rw [eB, sV_eq, sR_ne _ _ x1, sV_eq, sR_ne _ _ x3, sR_ne _ _ x2, sV_eq, sR_ne _ _ x1]
  have kB : B'.2 = B.2 := by rw [eB]; rfl
  have b42 : (sV B 41 6 0).1 42 = B.1 42 := by rw [sV_eq, sR_ne _ _ (by decide)]
  have b43 : (sV B 41 6 0).1 43 = B.1 43 := by rw [sV_eq, sR_ne _ _ (by decide)]
  have tUp : ∀ i cs, i < nl2 → TextR B i cs → TextR B' i cs := fun i cs hi h => h.up (fun k hk => by rw [g43, o3 _ (by omega), b43]) (by rw [g44, if_neg (by omega)])
  refine ⟨A', B', cl, rb, nA, H.made ⟨fun b x1 x2 x3 => ?_, fun k x1 x2 => ?_, fun b hb => ?_, nA, fun b k x1 x2 => ?_⟩ ?_ ?_ (fun b x1 x2 x3 _ _ => gB b x1 x2 x3) (fun k x1 x2 _ => by rw [g41, if_neg x2, if_neg x1]) (by rw [kB]) (fun W hW => ?_) ⟨nl2 + 1, by omega, ?_, ?_, fun i hi => ?_, ?_⟩ ?_⟩
  · funext k
    rw [gA, if_neg (fun q => x2 q.1), if_neg (fun q => x1 q.1), if_neg (by omega)]
  · rw [gA, if_neg (fun q => absurd q.1 (by decide)), if_neg (fun q => x1 q.2), if_neg (by omega)]
  · rw [lA, if_neg (by omega)]
  · rw [kA, if_neg (fun q => x1 q.1)]
  · rw [gA, if_pos ⟨rfl, rfl⟩]
  · rw [g41, if_neg (by decide), if_pos rfl]
  · rcases hW with ⟨z1, z2⟩ | ⟨i, cs', z0, z1, z2, z3⟩
    · exact Or.inl ⟨by rw [g41, if_neg (by decide), if_neg (by decide)]; exact z1, z2⟩
    · have hi : i < nl2 := by
        rcases m4 with ⟨-, y⟩ | ⟨i2, y1, -, y2⟩
        · exact absurd (z1.symm.trans y) (io_ne1 (by omega))
        · have := (io_eq (by omega) (by omega)).mp (z1.symm.trans y2)
          omega
      exact Or.inr ⟨i, cs', z0, by rw [g41, if_neg (by decide), if_neg (by decide)]; exact z1, tUp i cs' hi z2, z3⟩
  · rw [gA, if_neg (by decide), if_pos ⟨rfl, rfl⟩]
  · rw [g41, if_pos rfl]
  · by_cases c : i = nl2
    · subst c
      refine ⟨A.2.2.2, cs, by rw [kA, if_pos ⟨rfl, rfl⟩], ⟨h12, by omega, by rw [lA, if_pos rfl], by omega, fun k hk => ?_⟩, hS.good, n, b, i', n2, by rw [g44, if_pos rfl], fun k hk => ?_, hp⟩
      · rw [gA, if_neg (by omega), if_neg (by omega), if_pos rfl, cpRow_lt hk]
        exact c8 k hk
      · rw [g43, o2 k (by omega) hk, b42]
        exact (ht k hk).nar
    · obtain ⟨a, cs', z1, z2, z3, z4⟩ := m3 i (by omega)
      have y1 := z2.1
      have y2 := z2.2.1
      refine ⟨a, cs', by rw [kA, if_neg (fun q => c q.2)]; exact z1, z2.up ?_ (by rw [lA, if_neg (by omega)]) (by omega), z3, tUp i cs' (by omega) z4⟩
      funext k
      rw [gA, if_neg (by omega), if_neg (by omega), if_neg (by omega)]
  · rcases m4 with ⟨y1, y2⟩ | ⟨i2, y1, y2, y3⟩
    · exact Or.inl ⟨by rw [gA, if_neg (by decide), if_neg (by decide), if_neg (by omega)]; exact y1, by rw [g41, if_neg (by decide), if_neg (by decide)]; exact y2⟩
    · exact Or.inr ⟨i2, by omega, by rw [gA, if_neg (by decide), if_neg (by decide), if_neg (by omega)]; exact y2, by rw [g41, if_neg (by decide), if_neg (by decide)]; exact y3⟩
  · obtain ⟨np, y0, y1, y2, y3⟩ := h5
    refine ⟨np, y0, by rw [gA, if_neg (by decide), if_neg (by decide), if_neg (by omega)]; exact y1, by rw [g41, if_neg (by decide), if_neg (by decide)]; exact y2, fun p hp' => ?_⟩
    obtain ⟨a, m, z1, z2, z3, z4, z5, z6, z7, z8⟩ := y3 p hp'
    have e1 : ¬ a = A.2.2.2 := Nat.ne_of_lt z3
    have e2 : ¬ a = 1 := fun q => by rw [q] at z2; exact absurd z2 (by decide)
    have e3 : ¬ a = 0 := fun q => by rw [q] at z2; exact absurd z2 (by decide)
    refine ⟨a, m, by rw [kA, if_neg (fun q => absurd q.1 (by decide))]; exact z1, z2, by rw [nA]; exact Nat.lt_succ_of_lt z3, z4, z5, by rw [lA, if_neg e1]; exact z6, by rw [gB 53 (by decide) (by decide) (by decide)]; exact z7, fun i hi => ?_⟩
    rw [gB 52 (by decide) (by decide) (by decide), gA, if_neg (fun q => e2 q.1), if_neg (fun q => e3 q.1), if_neg e1]
    exact z8 i hi
theorem text_plan (H : InvD 0 M nj nh nt A B) {np : Nat} (l1 : A.1 0 15 = Int32.ofNat np) (l2 : B.1 41 32 = Int32.ofNat np) (ll : np < 4) {cs : List Int32} (hc1 : 1 ≤ cs.length) (hc : cs.length ≤ 16) (hok : ∀ x ∈ cs, stepOk x) (c7 : A.1 9 2 = Int32.ofNat cs.length) (c8 : ∀ (k : Nat) (h : k < cs.length), A.1 10 k = cs[k]) (d7 : B.1 53 4 = Int32.ofNat cs.length) (d8 : ∀ (k : Nat) (h : k < cs.length), B.1 52 (64 + k) = cs[k]) :
    ∃ A' B', f_X11_keepPlan A = some (Int32.ofNat np, A') ∧ f_X12_text_L137 (fun (q84 : Int32) (S83 : zS) => if ia_in (S83.1 41 32) 5 = true then zl (sV S83 53 ((S83.1 41 32).toNatClampNeg) (S83.1 53 4)) fun S86 => zl (sV S86 41 32 ((S86.1 41 32) + 1)) fun S87 => some ((S87.1 41 32) - 1, S87) else none) 2 (B.1 41 6) zN 0 (sV B 41 6 0) = some (Int32.ofNat np, B') ∧ A'.2.2.2 = A.2.2.2 + 1 ∧ InvD 0 M nj nh nt A' B' := by
  have H' := H
  obtain ⟨w, h1', h2, ⟨W, w1, w2⟩, ⟨nl, m0, m1, m2, m3, m4⟩, ⟨np2, y0, y1, y2, y3⟩, h6', h7, h8, h9, h10, h11, h12, -⟩ := H'
  have e2 : np2 = np := (io_eq (by omega) (by omega)).mp (y1.symm.trans l1)
  subst e2
  have tc := ti_nat (n := cs.length) (by omega)
  obtain ⟨A', eA⟩ : ∃ A', A' = sV (sV (sK (sN A (cpRow (A.1 10) 16 cs.length) cs.length) 40 np2 (.ref A.2.2.2)) 0 15 (Int32.ofNat (np2 + 1))) 1 1 0 := ⟨_, rfl⟩
  have gA : ∀ b k, A'.1 b k = if b = 1 ∧ k = 1 then 0 else if b = 0 ∧ k = 15 then Int32.ofNat (np2 + 1) else if b = A.2.2.2 then cpRow (A.1 10) 16 cs.length k else A.1 b k := by
    intro b k
    rw [eA, sV_g, sV_g, sK_1]
    by_cases c : b = A.2.2.2
    · subst c
      rw [sN_at, if_pos rfl]
    · rw [sN_ne _ _ _ c, if_neg c]
  have kA : ∀ b k, A'.2.1 b k = if b = 40 ∧ k = np2 then .ref A.2.2.2 else A.2.1 b k := by
    intro b k
    rw [eA]
    exact sK_g _ _ _ _ b k
  have lA : ∀ b, A'.2.2.1 b = if b = A.2.2.2 then cs.length else A.2.2.1 b := fun b => by rw [eA]; rfl
  have nA : A'.2.2.2 = A.2.2.2 + 1 := by rw [eA]; rfl
  have cl : f_X11_keepPlan A = some (Int32.ofNat np2, A') := by
    unfold f_X11_keepPlan
    have x0 : ((sK (sN A (cpRow (A.1 10) 16 cs.length) cs.length) 40 np2 (.ref A.2.2.2)).1 0 15) + 1 = Int32.ofNat (np2 + 1) := by
      rw [sK_1, sN_ne _ _ _ (by omega), l1, io_sc]
    rw [l1, c7, if_pos (show Int32.ofNat np2 < 4 from (io_lt (b := 4) (by omega) (by omega)).mpr ll), if_pos ⟨io_in (by omega) (by omega), by rw [tc]; omega, by rw [tc]; omega⟩, io_cl (by omega), io_cl (by omega), zlE, zlE, zlE, zlE, x0, ← eA]
    rw [show A'.1 0 15 = Int32.ofNat (np2 + 1) by rw [gA, if_neg (by decide), if_pos ⟨rfl, rfl⟩], io_mm (by omega)]
    rfl
  have b7 : (sV B 41 6 0).1 41 32 = Int32.ofNat np2 := by rw [sV_g, if_neg (by decide)]; exact l2
  obtain ⟨r, o1, o2, o3⟩ := t_L137 (i1 := 2) (i2 := B.1 41 6) ll (fun (q84 : Int32) (S83 : zS) => if ia_in (S83.1 41 32) 5 = true then zl (sV S83 53 ((S83.1 41 32).toNatClampNeg) (S83.1 53 4)) fun S86 => zl (sV S86 41 32 ((S86.1 41 32) + 1)) fun S87 => some ((S87.1 41 32) - 1, S87) else none) 16 0 zN (sV B 41 6 0) b7 (by omega) (by unfold zN; omega)
  obtain ⟨B', eB⟩ : ∃ B', B' = sV (sV (sR (sV B 41 6 0) 52 r) 53 np2 (Int32.ofNat cs.length)) 41 32 (Int32.ofNat (np2 + 1)) := ⟨_, rfl⟩
  have rb : f_X12_text_L137 (fun (q84 : Int32) (S83 : zS) => if ia_in (S83.1 41 32) 5 = true then zl (sV S83 53 ((S83.1 41 32).toNatClampNeg) (S83.1 53 4)) fun S86 => zl (sV S86 41 32 ((S86.1 41 32) + 1)) fun S87 => some ((S87.1 41 32) - 1, S87) else none) 2 (B.1 41 6) zN 0 (sV B 41 6 0) = some (Int32.ofNat np2, B') := by
    have z7 : (sR (sV B 41 6 0) 52 r).1 41 32 = Int32.ofNat np2 := by rw [sR_ne _ _ (by decide)]; exact b7
    have z4 : (sR (sV B 41 6 0) 52 r).1 53 4 = Int32.ofNat cs.length := by rw [sR_ne _ _ (by decide), sV_g, if_neg (by decide)]; exact d7
    have z8 : (sV (sR (sV B 41 6 0) 52 r) 53 np2 (Int32.ofNat cs.length)).1 41 32 = Int32.ofNat np2 := by rw [sV_g, if_neg (fun q => absurd q.1 (by decide))]; exact z7
    refine o1.trans ?_
    rw [z7, z4, if_pos (io_in (by omega) (by omega)), io_cl (by omega), zlE, zlE, z8, io_sc, ← eB]
    rw [show B'.1 41 32 = Int32.ofNat (np2 + 1) by rw [eB, sV_g, if_pos ⟨rfl, rfl⟩], io_mm (by omega)]
    rfl
  have g52 : B'.1 52 = r := by
    rw [eB, sV_eq, sR_ne _ _ (by decide), sV_eq, sR_ne _ _ (by decide), sR_at]
  have g53 : ∀ k, B'.1 53 k = if k = np2 then Int32.ofNat cs.length else B.1 53 k := fun k => by
    rw [eB, sV_g, if_neg (fun q => absurd q.1 (by decide)), sV_g]
    by_cases c : k = np2
    · rw [if_pos ⟨rfl, c⟩, if_pos c]
    · rw [if_neg (fun q => c q.2), if_neg c, sR_ne _ _ (by decide), sV_g, if_neg (fun q => absurd q.1 (by decide))]
  have g41 : ∀ k, B'.1 41 k = if k = 32 then Int32.ofNat (np2 + 1) else if k = 6 then 0 else B.1 41 k := fun k => by
    rw [eB, sV_g]
    by_cases c : k = 32
    · rw [if_pos ⟨rfl, c⟩, if_pos c]
    · rw [if_neg (fun q => c q.2), if_neg c, sV_g, if_neg (fun q => absurd q.1 (by decide)), sR_ne _ _ (by decide), sV_g]
      by_cases c6 : k = 6
      · rw [if_pos ⟨rfl, c6⟩, if_pos c6]
      · rw [if_neg (fun q => c6 q.2), if_neg c6]
  have gB : ∀ b, b ≠ 41 → b ≠ 52 → b ≠ 53 → B'.1 b = B.1 b := fun b x1 x2 x3 => by
    rw [eB, sV_eq, sR_ne _ _ x1, sV_eq, sR_ne _ _ x3, sR_ne _ _ x2, sV_eq, sR_ne _ _ x1]
  have kB : B'.2 = B.2 := by rw [eB]; rfl
  have b52 : (sV B 41 6 0).1 52 = B.1 52 := by rw [sV_eq, sR_ne _ _ (by decide)]
  refine ⟨A', B', cl, rb, nA, H.made ⟨fun b x1 x2 x3 => ?_, fun k x1 x2 => ?_, fun b hb => ?_, nA, fun b k x1 x2 => ?_⟩ ?_ ?_ (fun b x1 _ _ x2 x3 => gB b x1 x2 x3) (fun k x1 _ x2 => by rw [g41, if_neg x2, if_neg x1]) (by rw [kB]) (fun W hW => hW.of (by rw [g41, if_neg (by decide), if_neg (by decide)]) (gB 43 (by decide) (by decide) (by decide)) (gB 44 (by decide) (by decide) (by decide))) ⟨nl, m0, ?_, ?_, fun i hi => ?_, ?_⟩ ⟨np2 + 1, by omega, ?_, ?_, fun p hp' => ?_⟩⟩
  · funext k
    rw [gA, if_neg (fun q => x2 q.1), if_neg (fun q => x1 q.1), if_neg (by omega)]
  · rw [gA, if_neg (fun q => absurd q.1 (by decide)), if_neg (fun q => x2 q.2), if_neg (by omega)]
  · rw [lA, if_neg (by omega)]
  · rw [kA, if_neg (fun q => x2 q.1)]
  · rw [gA, if_pos ⟨rfl, rfl⟩]
  · rw [g41, if_neg (by decide), if_pos rfl]
  · rw [gA, if_neg (by decide), if_neg (by decide), if_neg (by omega)]; exact m1
  · rw [g41, if_neg (by decide), if_neg (by decide)]; exact m2
  · obtain ⟨a, cs', z1, z2, z3, z4⟩ := m3 i hi
    have y1 := z2.1
    have y2 := z2.2.1
    refine ⟨a, cs', by rw [kA, if_neg (fun q => absurd q.1 (by decide))]; exact z1, z2.up ?_ (by rw [lA, if_neg (by omega)]) (by omega), z3, z4.of (gB 43 (by decide) (by decide) (by decide)) (gB 44 (by decide) (by decide) (by decide))⟩
    funext k
    rw [gA, if_neg (by omega), if_neg (by omega), if_neg (by omega)]
  · rw [gA, if_neg (by decide), if_neg (by decide), if_neg (by omega), g41, if_neg (by decide), if_neg (by decide)]
    exact m4
  · rw [gA, if_neg (by decide), if_pos ⟨rfl, rfl⟩]
  · rw [g41, if_pos rfl]
  · by_cases c : p = np2
    · subst c
      refine ⟨A.2.2.2, cs.length, by rw [kA, if_pos ⟨rfl, rfl⟩], h12, by rw [nA]; exact Nat.lt_succ_self _, hc1, hc, by rw [lA, if_pos rfl], by rw [g53, if_pos rfl], fun i hi => ?_⟩
      have e : A'.1 A.2.2.2 i = cs[i] := by
        rw [gA, if_neg (by omega), if_neg (by omega), if_pos rfl, cpRow_lt hi]
        exact c8 i hi
      rw [e, g52, o2 i (by omega) (by omega), b52, d8 i hi]
      exact ⟨rfl, hok _ (List.getElem_mem hi)⟩
    · obtain ⟨a, m, z1, z2, z3, z4, z5, z6, z7, z8⟩ := y3 p (by omega)
      have e1 : ¬ a = A.2.2.2 := Nat.ne_of_lt z3
      have e2 : ¬ a = 1 := fun q => by rw [q] at z2; exact absurd z2 (by decide)
      have e3 : ¬ a = 0 := fun q => by rw [q] at z2; exact absurd z2 (by decide)
      refine ⟨a, m, by rw [kA, if_neg (fun q => c q.2)]; exact z1, z2, by rw [nA]; exact Nat.lt_succ_of_lt z3, z4, z5, by rw [lA, if_neg e1]; exact z6, by rw [g53, if_neg c]; exact z7, fun i hi => ?_⟩
      rw [g52, o3 _ (by omega), b52, gA, if_neg (fun q => e2 q.1), if_neg (fun q => e3 q.1), if_neg e1]
      exact z8 i hi
theorem op_text (H : InvD 0 M nj nh nt A B) (v : Int32) : ∃ r A' B', f_X11_text v A = some (r, A') ∧ f_X12_text v (nB B A'.2.2.2) = some (r, B') ∧ Inv (M + 1000) A' B' := by
  have Hk : ∀ k, InvD 0 M nj nh nt A (nB B k) := fun k => H
  by_cases hv : v.toInt < 0 ∨ 2 < v.toInt
  · have e0 : (0 : Int64).toInt = 0 := by decide
    have e2 : (2 : Int64).toInt = 2 := by decide
    refine ⟨-1, A, sV (nB B A.2.2.2) 41 0 0, if_pos hv, ?_, ((Hk A.2.2.2).thr 0).sim⟩
    unfold f_X12_text
    rw [zlE, r_isIn, zbE, e0, e2, if_neg (show ¬ (0 ≤ v.toInt ∧ v.toInt ≤ 2) by omega), if_pos rfl]
  · have cv : v = 0 ∨ v = 1 ∨ v = 2 := by
      rcases (show v.toInt = 0 ∨ v.toInt = 1 ∨ v.toInt = 2 by omega) with q | q | q
      · exact Or.inl (ti_inj (by rw [q]; decide))
      · exact Or.inr (Or.inl (ti_inj (by rw [q]; decide)))
      · exact Or.inr (Or.inr (ti_inj (by rw [q]; decide)))
    rcases cv with rfl | rfl | rfl
    · have H1 := ((Hk A.2.2.2).thr 0).thr 0
      obtain ⟨A1, B1, r, h1, h2, h3, h4, h5, h6, h7⟩ := kitT H1
      have en : A1.2.2 = A.2.2 := h4.2.2.1
      have ct : f_X11_text 0 A = if ¬ r = -1 then some ((-1), A1) else f_X11_keepKitchen A1 := by
        unfold f_X11_text
        rw [if_neg (by decide), if_pos rfl, h1, zbE]
      have rt : f_X12_text 0 (nB B A.2.2.2) = if r = -1 then kitE B1 else some ((-1), B1) := by
        rw [r_text_0, r_fault_0, h2, zbE, zbE, h3]
      by_cases hr : r = -1
      · obtain ⟨nj', nh', nt', K, p0, p1⟩ := h7 hr
        obtain ⟨A', B', k1, k2, k3, k4⟩ := text_kit h6 K p0 p1
        refine ⟨_, A', B', by rw [ct, if_neg (nn hr), k1], ?_, ⟨_, _, _, k4.mono (by omega)⟩⟩
        rw [k3, en, rt, if_pos hr, k2]
      · refine ⟨-1, A1, B1, by rw [ct, if_pos hr], ?_, h6.sim⟩
        rw [en, rt, if_neg hr]
    · obtain ⟨w, -, -, -, ⟨nl, m0, m1, m2, -⟩, -⟩ := H
      by_cases hl : nl = 4
      · have H1 := (Hk A.2.2.2).thr 0
        obtain ⟨n, A1, B1, r, -, -, -, -, h1, -, -, h4, -, -, -⟩ := lawT H1
        have en : A1.2.2 = A.2.2 := h4.2.2.1
        have h6 := H1.obs h4 H1.reflR
        have e14 : A1.1 0 14 = Int32.ofNat 4 := by rw [h4.1 0 (Or.inl rfl), m1, hl]
        have ct : f_X11_text 1 A = some ((-1), A1) := by
          unfold f_X11_text
          rw [if_neg (by decide), if_neg (by decide), if_pos rfl, h1, zbE]
          by_cases hr : r = -1
          · rw [if_neg (nn hr)]
            unfold f_X11_keepLaw
            rw [e14, if_neg (by decide)]
          · rw [if_pos hr]
        refine ⟨-1, A1, sV (nB B A.2.2.2) 41 0 0, ct, ?_, h6.sim⟩
        rw [en, r_text_1, if_pos (show (sV (nB B A.2.2.2) 41 0 0).1 41 7 = 4 by rw [sV_g, if_neg (by decide)]; show B.1 41 7 = 4; rw [m2, hl]; rfl)]
      · have n7 : ∀ k, ¬ (sV (nB B k) 41 0 0).1 41 7 = 4 := fun k q => by
          rw [sV_g, if_neg (by decide)] at q
          have q : B.1 41 7 = 4 := q
          rw [m2] at q
          have := (io_eq (b := 4) (by omega) (by omega)).mp q
          omega
        have cr : ∀ k, ∃ n A1 B1 r, TxB (A.1 2) n ∧ f_X5_firstWrong A = some (r, A1) ∧ f_X12_text 1 (nB B k) = (if r = -1 then f_X12_text_L71 (fun (q94 : Int32) (S93 : zS) => if ia_in (S93.1 41 7) 4 = true then zl (sV S93 44 ((S93.1 41 7).toNatClampNeg) (B1.1 41 6)) fun S96 => zl (sV S96 41 7 ((S96.1 41 7) + 1)) fun S97 => some ((S97.1 41 7) - 1, S97) else none) 1 (B1.1 41 6) zN 0 (sV B1 41 6 0) else some ((-1), B1)) ∧ A1.2.2 = A.2.2 ∧ A1.1 0 14 = Int32.ofNat nl ∧ B1.1 41 7 = Int32.ofNat nl ∧ B1.1 41 6 = Int32.ofNat n ∧ (∀ k, k < n → byteOk (A.1 2 k) (B1.1 42 k)) ∧ InvD 0 M nj nh nt A1 B1 ∧ (r = -1 → ∃ i' cs, pLaw (A.1 2) n = .inr (i', cs) ∧ StI cs ∧ cs.length ≤ n ∧ A1.1 7 2 = Int32.ofNat cs.length ∧ ∀ (k : Nat) (h : k < cs.length), A1.1 8 k = cs[k]) := by
          intro k
          have H0 := (Hk k).thr 0
          have H1 := H0.thr 0
          obtain ⟨n, A1, B1, r, g1, g2, g3, g4, h1, h2, h3, h4, h5, h6, h7⟩ := lawT H1
          refine ⟨n, A1, B1, r, g1, h1, ?_, h4.2.2.1, ?_, ?_, ?_, ?_, h6, h7⟩
          · rw [r_text_1, if_neg (n7 k), r_fault_1, h2, zbE, zbE, h3]
          · rw [h4.1 0 (Or.inl rfl)]; exact m1
          · rw [h5.2.1 7 (by decide), sV_g, if_neg (by decide), sV_g, if_neg (by decide)]; exact m2
          · rw [h5.2.1 6 (by decide)]; exact g3
          · rw [h5.1 42 (by decide)]; exact g4
        obtain ⟨n, A1, B1, r, g1, h1, h2, h3, -, -, -, -, h6, -⟩ := cr A.2.2.2
        by_cases hr : r = -1
        · obtain ⟨n', A2, B2, r2, g1', h1', h2', h3', a14, b7, b6, bt, h6', h7'⟩ := cr (A.2.2.2 + 1)
          have er : r2 = -1 := by
            rw [h1] at h1'
            injection h1' with q
            injection q with q1 q2
            rw [← q1, hr]
          obtain ⟨i', cs, p1, p2, p3, p4, p5⟩ := h7' er
          obtain ⟨A', B', k1, k2, k3, k4⟩ := text_law h6' a14 b7 (by omega) g1'.1 b6 bt p1 p2 p3 p4 p5
          refine ⟨Int32.ofNat nl, A', B', ?_, ?_, k4.sim⟩
          · unfold f_X11_text
            rw [if_neg (by decide), if_neg (by decide), if_pos rfl, h1', zbE, if_neg (nn er), k1]
          · rw [k3, h3', h2', if_pos er, k2]
        · refine ⟨-1, A1, B1, ?_, ?_, h6.sim⟩
          · unfold f_X11_text
            rw [if_neg (by decide), if_neg (by decide), if_pos rfl, h1, zbE, if_pos hr]
          · rw [h3, h2, if_neg hr]
    · obtain ⟨w, -, -, -, -, ⟨np, m0, m1, m2, -⟩, -⟩ := H
      by_cases hl : np = 4
      · have H1 := (Hk A.2.2.2).thr 0
        obtain ⟨A1, B1, r, h1, -, -, h4, -, -, -⟩ := planT H1
        have en : A1.2.2 = A.2.2 := h4.2.2.1
        have h6 := H1.obs h4 H1.reflR
        have e14 : A1.1 0 15 = Int32.ofNat 4 := by rw [h4.1 0 (Or.inl rfl), m1, hl]
        have ct : f_X11_text 2 A = some ((-1), A1) := by
          unfold f_X11_text
          rw [if_neg (show ¬((2:Int32).toInt < 0 ∨ 2 < (2:Int32).toInt) by decide), if_neg (show ¬ (2:Int32) = 0 by decide), if_neg (show ¬ (2:Int32) = 1 by decide), if_pos rfl, h1, zbE]
          by_cases hr : r = -1
          · rw [if_neg (nn hr)]
            unfold f_X11_keepPlan
            rw [e14, if_neg (by decide)]
          · rw [if_pos hr]
        refine ⟨-1, A1, sV (nB B A.2.2.2) 41 0 0, ct, ?_, h6.sim⟩
        rw [en, r_text_2, if_pos (show (sV (nB B A.2.2.2) 41 0 0).1 41 32 = 4 by rw [sV_g, if_neg (by decide)]; show B.1 41 32 = 4; rw [m2, hl]; rfl)]
      · have n7 : ∀ k, ¬ (sV (nB B k) 41 0 0).1 41 32 = 4 := fun k q => by
          rw [sV_g, if_neg (by decide)] at q
          have q : B.1 41 32 = 4 := q
          rw [m2] at q
          have := (io_eq (b := 4) (by omega) (by omega)).mp q
          omega
        have cr : ∀ k, ∃ A1 B1 r, f_X6_firstWrong A = some (r, A1) ∧ f_X12_text 2 (nB B k) = (if r = -1 then f_X12_text_L137 (fun (q84 : Int32) (S83 : zS) => if ia_in (S83.1 41 32) 5 = true then zl (sV S83 53 ((S83.1 41 32).toNatClampNeg) (S83.1 53 4)) fun S86 => zl (sV S86 41 32 ((S86.1 41 32) + 1)) fun S87 => some ((S87.1 41 32) - 1, S87) else none) 2 (B1.1 41 6) zN 0 (sV B1 41 6 0) else some ((-1), B1)) ∧ A1.2.2 = A.2.2 ∧ A1.1 0 15 = Int32.ofNat np ∧ B1.1 41 32 = Int32.ofNat np ∧ InvD 0 M nj nh nt A1 B1 ∧ (r = -1 → ∃ cs : List Int32, 1 ≤ cs.length ∧ cs.length ≤ 16 ∧ (∀ x ∈ cs, stepOk x) ∧ A1.1 9 2 = Int32.ofNat cs.length ∧ (∀ (k : Nat) (h : k < cs.length), A1.1 10 k = cs[k]) ∧ B1.1 53 4 = Int32.ofNat cs.length ∧ ∀ (k : Nat) (h : k < cs.length), B1.1 52 (64 + k) = cs[k]) := by
          intro k
          have H0 := (Hk k).thr 0
          have H1 := H0.thr 0
          obtain ⟨A1, B1, r, h1, h2, h3, h4, h5, h6, h7⟩ := planT H1
          refine ⟨A1, B1, r, h1, ?_, h4.2.2.1, ?_, ?_, h6, h7⟩
          · rw [r_text_2, if_neg (n7 k), r_fault_2, h2, zbE, zbE, h3]
          · rw [h4.1 0 (Or.inl rfl)]; exact m1
          · rw [h5.2.1 32 (by decide), sV_g, if_neg (by decide), sV_g, if_neg (by decide)]; exact m2
        obtain ⟨A1, B1, r, h1, h2, h3, -, -, h6, -⟩ := cr A.2.2.2
        by_cases hr : r = -1
        · obtain ⟨A2, B2, r2, h1', h2', h3', a15, b32, h6', h7'⟩ := cr (A.2.2.2 + 1)
          have er : r2 = -1 := by
            rw [h1] at h1'
            injection h1' with q
            injection q with q1 q2
            rw [← q1, hr]
          obtain ⟨cs, p1, p2, p3, p4, p5, p6, p7⟩ := h7' er
          obtain ⟨A', B', k1, k2, k3, k4⟩ := text_plan h6' a15 b32 (by omega) p1 p2 p3 p4 p5 p6 p7
          refine ⟨Int32.ofNat np, A', B', ?_, ?_, k4.sim⟩
          · unfold f_X11_text
            rw [if_neg (show ¬((2:Int32).toInt < 0 ∨ 2 < (2:Int32).toInt) by decide), if_neg (show ¬ (2:Int32) = 0 by decide), if_neg (show ¬ (2:Int32) = 1 by decide), if_pos rfl, h1', zbE, if_neg (nn er), k1]
          · rw [k3, h3', h2', if_pos er, k2]
        · refine ⟨-1, A1, B1, ?_, ?_, h6.sim⟩
          · unfold f_X11_text
            rw [if_neg (show ¬((2:Int32).toInt < 0 ∨ 2 < (2:Int32).toInt) by decide), if_neg (show ¬ (2:Int32) = 0 by decide), if_neg (show ¬ (2:Int32) = 1 by decide), if_pos rfl, h1, zbE, if_pos hr]
          · rw [h3, h2, if_neg hr]
end QH
