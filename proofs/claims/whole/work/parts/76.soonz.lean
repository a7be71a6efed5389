/-! soonest: what the reference answers. -/
section SE
variable {W : zLw} {nj nh nt tb M : Nat} {hole : Int32} {A B : zS}
/-- the fewest, the least first one -/
def SoonV (F : Nat → Nat → Prop) (k : Nat) (i3 v : Int32) : Prop := (∃ n c, 1 ≤ n ∧ n ≤ k ∧ c < 160 ∧ F n c ∧ (∀ c', c' < c → ¬ F n c') ∧ (∀ n', 1 ≤ n' → n' < n → ∀ c', c' < 160 → ¬ F n' c') ∧ v = if ¬ i3 = 0 then Int32.ofNat c else Int32.ofNat n) ∨ ((∀ n, 1 ≤ n → n ≤ k → ∀ c, c < 160 → ¬ F n c) ∧ v = -1000000)
theorem SoonV.one {F : Nat → Nat → Prop} {k : Nat} {i3 v v' : Int32} (h : SoonV F k i3 v) (h' : SoonV F k i3 v') : v = v' := by
  rcases h with ⟨n, c, n1, n2, c1, f1, f2, f3, rfl⟩ | ⟨h, rfl⟩
  · rcases h' with ⟨n', c', n1', n2', c1', f1', f2', f3', rfl⟩ | ⟨h', rfl⟩
    · have en : n = n' := by
        rcases Nat.lt_trichotomy n n' with q | q | q
        · exact absurd f1 (f3' n n1 q c c1)
        · exact q
        · exact absurd f1' (f3 n' n1' q c' c1')
      subst en
      have ec : c = c' := by
        rcases Nat.lt_trichotomy c c' with q | q | q
        · exact absurd f1 (f2' c q)
        · exact q
        · exact absurd f1' (f2 c' q)
      rw [ec]
    · exact absurd f1 (h' n n1 n2 c c1)
  · rcases h' with ⟨n', c', n1', n2', c1', f1', f2', f3', rfl⟩ | ⟨h', rfl⟩
    · exact absurd f1' (h n' n1' n2' c' c1')
    · rfl
theorem r_L133 {F : Nat → Nat → Prop} {k : Nat} {i3 : Int32} (hk : k ≤ 3) (hF : ∀ n c B', 1 ≤ n → n ≤ 3 → c < 160 → sSo 0 B B' → ∃ v B2, f_X12_opensFirst (Int32.ofNat c) (Int32.ofNat n) 0 hole B' = some (v, B2) ∧ ((v = 1 ∧ F n c) ∨ (v = 0 ∧ ¬ F n c)) ∧ sSo 0 B' B2) : ∀ (m n i f : Nat) (B' : zS), (k - n) * 161 + (160 - i) = m → m < f → 1 ≤ n → n ≤ k → i ≤ 160 → sSo 0 B B' → (∀ c', c' < i → ¬ F n c') → (∀ n', 1 ≤ n' → n' < n → ∀ c', c' < 160 → ¬ F n' c') →
    ∃ v B2, f_X12_soonest_L133 (fun (q33 : Int32) (q34 : Int32) (S32 : zS) => some ((-1000000), S32)) (Int32.ofNat k) hole i3 f (Int32.ofNat n) (Int32.ofNat i) B' = some (v, B2) ∧ SoonV F k i3 v ∧ sSo 0 B' B2 := by
  intro m
  induction m using Nat.strongRecOn with
  | ind m ih =>
    intro n i f B' hm hf n1 n2 i1 hs p1 p2
    obtain ⟨f, rfl⟩ : ∃ g, f = g + 1 := ⟨f - 1, by omega⟩
    unfold f_X12_soonest_L133
    by_cases h160 : i = 160
    · rw [if_pos (show (160 : Int32) ≤ Int32.ofNat i by rw [h160]; exact Int32.le_refl _), zlE, io_sc]
      subst h160
      by_cases hn : n = k
      · rw [if_pos ((io_lt (by omega) (by omega)).mpr (by omega))]
        refine ⟨-1000000, B', rfl, Or.inr ⟨fun n' q1 q2 c hc => ?_, rfl⟩, sSo.rfl' _ _⟩
        by_cases e : n' = n
        · rw [e]; exact p1 c hc
        · exact p2 n' q1 (by omega) c hc
      · rw [if_neg (fun q => by have := (io_lt (by omega) (by omega)).mp q; omega)]
        refine ih ((k - (n + 1)) * 161 + (160 - 0)) (by omega) (n + 1) 0 f B' rfl (by omega) (by omega) (by omega) (by omega) hs (fun c' hc => by omega) (fun n' q1 q2 c hc => ?_)
        by_cases e : n' = n
        · rw [e]; exact p1 c hc
        · exact p2 n' q1 (by omega) c hc
    · rw [if_neg (show ¬ (160 : Int32) ≤ Int32.ofNat i from fun q => by have := (io_le (a := 160) (b := i) (by omega) (by omega)).mp q; omega)]
      obtain ⟨v, B2, o1, o2, o3⟩ := hF n i B' n1 (by omega) (by omega) hs
      rw [o1, zbE]
      rcases o2 with ⟨rfl, o2⟩ | ⟨rfl, o2⟩
      · rw [if_neg (show ¬ (1 : Int32) = 0 by decide)]
        refine ⟨if ¬ i3 = 0 then Int32.ofNat i else Int32.ofNat n, B2, ?_, Or.inl ⟨n, i, n1, n2, by omega, o2, p1, p2, rfl⟩, o3⟩
        by_cases e : i3 = 0
        · rw [if_neg (nn e), if_neg (nn e)]
        · rw [if_pos e, if_pos e]
      · rw [if_pos rfl, zlE, io_sc]
        obtain ⟨v, B3, x1, x2, x3⟩ := ih ((k - n) * 161 + (160 - (i + 1))) (by omega) n (i + 1) f B2 rfl (by omega) n1 n2 (by omega) (hs.tr o3) (fun c' hc => by
          by_cases e : c' = i
          · rw [e]; exact o2
          · exact p1 c' (by omega)) p2
        exact ⟨v, B3, x1, x2, o3.tr x3⟩
theorem r_cp94 {ex : Int32 → zS → Option (Int32 × zS)} {i1 i2 i3 : Int32} : ∀ (m i f : Nat) (B : zS), i + m = 66 → m < f → ∃ row, f_X12_soonest_L94 ex i1 i2 i3 f (Int32.ofNat i) B = ex 66 (sR B 59 row) ∧ (∀ k, i ≤ k → k < 66 → row k = B.1 54 k) ∧ ∀ k, k < i → row k = B.1 59 k := by
  intro m
  induction m with
  | zero =>
    intro i f B hi hf
    obtain ⟨f, rfl⟩ : ∃ g, f = g + 1 := ⟨f - 1, by omega⟩
    have hi : i = 66 := by omega
    subst hi
    refine ⟨B.1 59, ?_, fun k _ _ => by omega, fun k _ => rfl⟩
    unfold f_X12_soonest_L94
    rw [sR_self]
    exact if_pos (Int32.le_refl _)
  | succ m ih =>
    intro i f B hi hf
    obtain ⟨f, rfl⟩ : ∃ g, f = g + 1 := ⟨f - 1, by omega⟩
    have h66 : ¬ (66 : Int32) ≤ Int32.ofNat i := fun q => by have := (io_le (a := 66) (b := i) (by omega) (by omega)).mp q; omega
    obtain ⟨row, o1, o2, o3⟩ := ih (i + 1) f (sV B 59 i (B.1 54 i)) (by omega) (by omega)
    refine ⟨row, ?_, fun k k1 k2 => ?_, fun k hk => ?_⟩
    · unfold f_X12_soonest_L94
      rw [if_neg h66, io_in (by omega) (by omega), if_pos rfl, io_in (by omega) (by omega), if_pos rfl, io_cl (by omega), zlE, zlE, io_sc, o1, sV_eq, sR_sR]
    · by_cases c : k = i
      · subst c
        rw [o3 _ (by omega), sV_g, if_pos ⟨rfl, rfl⟩]
      · rw [o2 k (by omega) k2, sV_g, if_neg (fun q => absurd q.1 (by decide))]
    · rw [o3 k (by omega), sV_g, if_neg (fun q => by omega)]
/-- what the reference's whole search changes -/
def sSx (B B' : zS) : Prop := (∀ b, b ≠ 41 → b ≠ 45 → b ≠ 55 → b ≠ 59 → B'.1 b = B.1 b) ∧ (∀ k, (k < 8 ∨ 14 < k) → k ≠ 17 → B'.1 41 k = B.1 41 k) ∧ B'.2.2 = B.2.2 ∧ (∀ b k, ¬ (b = 41 ∧ k = 5) → B'.2.1 b k = B.2.1 b k)
theorem sSx.obs {B B' : zS} (h : sSx B B') (hl : ∃ x, B.2.1 41 51 = .long x) : obsR B B' := by
  refine ⟨fun b hb => h.1 b (by omega) (by omega) (by omega) (by omega), fun k hk => h.2.1 k (by omega) (by omega), fun k _ => by rw [h.1 52 (by decide) (by decide) (by decide) (by decide)], fun k _ => by rw [h.1 53 (by decide) (by decide) (by decide) (by decide)], h.2.2.1, ?_⟩
  rw [h.2.2.2 41 51 (by decide)]
  exact hl
theorem r_soonest {k : Nat} {i3 : Int32} (hb : tb < 4) (hn : tb < nj) (hM : M < 900000) (k1 : 1 ≤ k) (hk : k ≤ 3) (T : ITold nj nh nt A B) (HL : LawR B W) (R : IRow (B.1 46) nj M (A.1 18) (B.1 54)) (h64 : A.1 18 64 = Int32.ofNat tb) (h6 : A.1 18 (7 * tb + 6) = 0) :
    ∃ v B', f_X12_soonest_L94 (fun (q21 : Int32) (S20 : zS) => f_X12_soonest_L124 (fun (q36 : Int32) (S35 : zS) => some ((-1000000), S35)) (Int32.ofNat k) hole i3 zN 1 S20) (Int32.ofNat k) hole i3 zN 0 B = some (v, B') ∧ SoonV (fun n c => opF (actM loC W (A.1 13) (fun k => A.1 13 (24 + k)) (fun k => A.1 13 (54 + k)) nj nh tb) (acN nh nt hole) tb c (n - 1) (A.1 18)) k i3 v ∧ sSx B B' := by
  obtain ⟨row, o1, o2, -⟩ := r_cp94 (ex := fun (q21 : Int32) (S20 : zS) => f_X12_soonest_L124 (fun (q36 : Int32) (S35 : zS) => some ((-1000000), S35)) (Int32.ofNat k) hole i3 zN 1 S20) (i1 := Int32.ofNat k) (i2 := hole) (i3 := i3) 66 0 zN B (by omega) (by unfold zN; omega)
  have e : f_X12_soonest_L124 (fun (q36 : Int32) (S35 : zS) => some ((-1000000), S35)) (Int32.ofNat k) hole i3 zN 1 (sR B 59 row) = f_X12_soonest_L133 (fun (q33 : Int32) (q34 : Int32) (S32 : zS) => some ((-1000000), S32)) (Int32.ofNat k) hole i3 zN (Int32.ofNat 1) (Int32.ofNat 0) (sR B 59 row) := by
    have hz : ∃ z, zN = z + 1 := ⟨zN - 1, by unfold zN; omega⟩
    obtain ⟨z, hz⟩ := hz
    conv => lhs; rw [hz]
    rw [f_X12_soonest_L124, if_neg (show ¬ Int32.ofNat k < 1 from fun q => by have := (io_lt (a := k) (b := 1) (by omega) (by omega)).mp q; omega)]
    rfl
  have K : Sk W nj nh nt (M + 60 * 0) 0 (A.1 18) A (sR B 59 row) := by
    refine ⟨T.of rfl rfl rfl ?_ ?_ ?_ ?_ ?_ ?_, HL.of ?_ ?_ ?_, ?_⟩
    all_goals try (rw [sR_ne _ _ (by decide)])
    exact R.cg (fun _ _ => rfl) (fun k hk => by rw [sR_at, Nat.mul_zero, Nat.zero_add]; exact o2 k (by omega) hk)
  obtain ⟨v, B', x1, x2, x3⟩ := r_L133 (B := sR B 59 row) (hole := hole) (i3 := i3) (k := k) (F := fun n c => opF (actM loC W (A.1 13) (fun k => A.1 13 (24 + k)) (fun k => A.1 13 (54 + k)) nj nh tb) (acN nh nt hole) tb c (n - 1) (A.1 18)) hk (fun n c B' q1 q2 q3 q4 => by
    obtain ⟨n, rfl⟩ : ∃ x, n = x + 1 := ⟨n - 1, by omega⟩
    exact r_opF hb hn hM n 16 0 c (A.1 18) B' (by omega) (by omega) q3 (K.of q4) h64 h6) _ 1 0 zN (sR B 59 row) rfl (by unfold zN; omega) (by omega) k1 (by omega) (sSo.rfl' _ _) (fun c' h => by omega) (fun n' h1 h2 => by omega)
  refine ⟨v, B', o1.trans (e.trans x1), x2, ?_, ?_, x3.2.2.1, x3.2.2.2.1⟩
  · intro b y1 y2 y3 y4
    rw [x3.1 b y1 y2 y3 y4, sR_ne _ _ y4]
  · intro k' y1 y2
    rw [x3.2.1 k' y1 y2, sR_ne _ _ (by decide)]
end SE
