/-! What the plain reader of laws makes. -/
section OB
variable {b : Nat → Int32} {n : Nat}
def TxB (b : Nat → Int32) (n : Nat) : Prop := n ≤ 200 ∧ ∀ k, k < n → ∃ v, 0 < v ∧ v < 256 ∧ b k = Int32.ofNat v
theorem sk_un (i : Nat) : sk b n i = if i < n ∧ b i = 32 then sk b n (i + 1) else i := by
  unfold sk
  by_cases h : i < n
  · obtain ⟨d, hd⟩ : ∃ d, n - i = d + 1 := ⟨n - i - 1, by omega⟩
    rw [hd, show n - (i + 1) = d by omega]
    rfl
  · rw [show n - i = 0 by omega, if_neg (fun q => h q.1)]
    rfl
theorem sk_all : ∀ (d i : Nat), n - i = d → i ≤ n → i ≤ sk b n i ∧ sk b n i ≤ n ∧ (sk b n i < n → b (sk b n i) ≠ 32)
  | 0, i, hd, hi => by
    have e : sk b n i = i := by rw [sk_un, if_neg (fun q => by omega)]
    rw [e]
    exact ⟨Nat.le_refl _, hi, fun q => by omega⟩
  | d + 1, i, hd, hi => by
    rw [sk_un]
    by_cases h : i < n ∧ b i = 32
    · rw [if_pos h]
      obtain ⟨a1, a2, a3⟩ := sk_all d (i + 1) (by omega) (by omega)
      exact ⟨by omega, a2, a3⟩
    · rw [if_neg h]
      exact ⟨Nat.le_refl _, hi, fun q e => h ⟨q, e⟩⟩
theorem sk_ge {i : Nat} (hi : i ≤ n) : i ≤ sk b n i := (sk_all (n - i) i rfl hi).1
theorem sk_le {i : Nat} (hi : i ≤ n) : sk b n i ≤ n := (sk_all (n - i) i rfl hi).2.1
theorem sk_nb {i : Nat} (hi : i ≤ n) (h : sk b n i < n) : b (sk b n i) ≠ 32 := (sk_all (n - i) i rfl hi).2.2 h
theorem sk_sk {i : Nat} (hi : i ≤ n) : sk b n (sk b n i) = sk b n i := by
  rw [sk_un (sk b n i), if_neg (fun q => sk_nb hi q.1 q.2)]
theorem pk_sk {i : Nat} (hi : i ≤ n) : pk b n (sk b n i) = pk b n i := by
  unfold pk
  rw [sk_sk hi]
/-- something stands there -/
theorem pkn_lt {i : Nat} {x : Int32} (h : pk b n i = x) (hx : x ≠ 0) : sk b n i < n := by
  unfold pk at h
  by_cases q : sk b n i < n
  · exact q
  · rw [if_neg q] at h
    exact absurd h.symm hx
theorem pk_of {i : Nat} (h : sk b n i < n) : pk b n i = b (sk b n i) := if_pos h
theorem pk_v (T : TxB b n) {i : Nat} (hi : i ≤ n) : ∃ v, v < 256 ∧ pk b n i = Int32.ofNat v ∧ (sk b n i < n → 0 < v) ∧ (¬ sk b n i < n → v = 0) := by
  by_cases q : sk b n i < n
  · obtain ⟨v, v0, v1, v2⟩ := T.2 _ q
    exact ⟨v, v1, by rw [pk_of q, v2], fun _ => v0, fun h => absurd q h⟩
  · exact ⟨0, by decide, if_neg q, fun h => absurd h q, fun _ => rfl⟩
def isD (x : Int32) : Prop := 48 ≤ x ∧ x ≤ 57
theorem dg_of {v : Nat} (hv : v < 256) (h : isD (Int32.ofNat v)) : 48 ≤ v ∧ v ≤ 57 :=
  ⟨(io_le (a := 48) (by omega) (by omega)).mp h.1, (io_le (b := 57) (by omega) (by omega)).mp h.2⟩
theorem dg_to {v : Nat} (h : 48 ≤ v ∧ v ≤ 57) : isD (Int32.ofNat v) :=
  ⟨show (48 : Int32) ≤ _ from (io_le (a := 48) (by omega) (by omega)).mpr h.1, show _ ≤ (57 : Int32) from (io_le (b := 57) (by omega) (by omega)).mpr h.2⟩
theorem num_st {m v : Nat} (h : 48 ≤ v) : Int32.ofNat m * 10 + Int32.ofNat v - 48 = Int32.ofNat (m * 10 + (v - 48)) := by
  rw [show Int32.ofNat m * 10 = Int32.ofNat (m * 10) from (Int32.ofNat_mul m 10).symm, ← Int32.ofNat_add]
  have e := Int32.ofNat_sub (m * 10 + v) 48 (by omega)
  rw [show m * 10 + (v - 48) = m * 10 + v - 48 by omega]
  exact e.symm
theorem pnum_v (T : TxB b n) : ∀ (d i m : Nat), (m + 1) * 10 ^ d ≤ 10000 → ∃ m', (pnum b n d i (Int32.ofNat m)).2 = Int32.ofNat m' ∧ m' < 10000
  | 0, i, m, h => ⟨m, rfl, by omega⟩
  | d + 1, i, m, h => by
    rw [pnum]
    by_cases q : i < n ∧ 48 ≤ b i ∧ b i ≤ 57
    · rw [if_pos q]
      obtain ⟨v, v0, v1, v2⟩ := T.2 i q.1
      have g := dg_of v1 (by rw [← v2]; exact q.2)
      rw [v2, num_st g.1]
      refine pnum_v T d (i + 1) _ (Nat.le_trans (Nat.mul_le_mul_right _ (show m * 10 + (v - 48) + 1 ≤ (m + 1) * 10 by omega)) ?_)
      rw [Nat.mul_assoc, ← Nat.pow_succ']
      exact h
    · rw [if_neg q]
      have p : 0 < 10 ^ (d + 1) := Nat.pow_pos (by decide)
      have : m + 1 ≤ (m + 1) * 10 ^ (d + 1) := Nat.le_mul_of_pos_right _ p
      exact ⟨m, rfl, by omega⟩
theorem pnum_i : ∀ (d i : Nat) (v : Int32), i ≤ n → i ≤ (pnum b n d i v).1 ∧ (pnum b n d i v).1 ≤ n
  | 0, i, v, h => ⟨Nat.le_refl _, h⟩
  | d + 1, i, v, h => by
    rw [pnum]
    by_cases q : i < n ∧ 48 ≤ b i ∧ b i ≤ 57
    · rw [if_pos q]
      have := pnum_i d (i + 1) (v * 10 + b i - 48) (by omega)
      exact ⟨by omega, this.2⟩
    · rw [if_neg q]
      exact ⟨Nat.le_refl _, h⟩
theorem pnum_1 {d i : Nat} {v : Int32} (h : i < n) (h1 : 48 ≤ b i) (h2 : b i ≤ 57) : i < (pnum b n (d + 1) i v).1 := by
  rw [pnum, if_pos ⟨h, h1, h2⟩]
  have := (pnum_i (b := b) (n := n) d (i + 1) (v * 10 + b i - 48) (by omega)).1
  omega
theorem letR_v {x : Int32} {l : Nat} (h : letR x = some l) : l < 6 ∧ x ≠ 0 ∧ x = ([112, 115, 119, 105, 99, 97] : List Int32).getD l 0 := by
  unfold letR at h
  repeat' split at h
  all_goals first | (cases h; subst_vars; exact ⟨by decide, by decide, by decide⟩) | cases h
/-- what is asked of a reading: it went on, and its signs are good -/
def gM (n i H : Nat) (P : List Int32 → Prop) (m : zPR) : Prop := ∀ i' c, m = .inr (i', c) → i < i' ∧ i' ≤ n ∧ c.length + i ≤ i' ∧ exOK H c ∧ P c
def eB (e : Nat → Int32) : Prop := ∀ k, k < 6 → bd (e k) 0 99
def PS (c : List Int32) : Prop := ∀ e, eB e → bd (ev e c) (-1000000) 1000000
def PC (c : List Int32) : Prop := ∀ e, eB e → ev e c = 0 ∨ ev e c = 1
theorem pB_inr {m : zPR} {f : Nat → List Int32 → zPR} {r : Nat × List Int32} (h : pB m f = .inr r) : ∃ i c, m = .inr (i, c) ∧ f i c = .inr r := by
  unfold pB at h
  split at h
  · cases h
  · next i c => exact ⟨i, c, rfl, h⟩
theorem pNeed_inr {x : Int32} {i : Nat} {c : List Int32} {r : Nat × List Int32} (h : pNeed b n x i c = .inr r) : pk b n i = x ∧ r = (sk b n i + 1, c) := by
  unfold pNeed at h
  split at h
  · next q => cases h; exact ⟨q, rfl⟩
  · cases h
theorem PS.join {c c' : List Int32} {o : Int32} (he : ∀ e, ev e (c ++ c' ++ [o]) = joinV o (ev e c) (ev e c')) (ho : o = 43 ∨ o = 45 ∨ o = 42 ∨ o = 47) : PS (c ++ c' ++ [o]) := by
  intro e _
  rw [he]
  rcases ho with rfl | rfl | rfl | rfl
  · exact lim_bd _
  · exact lim_bd _
  · exact lim_bd _
  · show bd (if ev e c' = 0 then 0 else lim64 _) _ _
    split
    · exact ⟨by decide, by decide⟩
    · exact lim_bd _
theorem pAtom_g (T : TxB b n) {hub : Nat → Nat → zPR} {w i : Nat} (hw : w ≤ 6) (hi : i ≤ n) (hh : w < 6 → ∀ j, j ≤ n → gM n j (51 + 2 * w) PS (hub (w + 1) j)) : gM n i (51 + 2 * w) PS (pAtom b n hub w i) := by
  intro i' c h
  have s1 := sk_ge (b := b) hi
  have s2 := sk_le (b := b) hi
  unfold pAtom at h
  by_cases q : 48 ≤ pk b n i ∧ pk b n i ≤ 57
  · rw [if_pos q] at h
    have lt : sk b n i < n := by
      refine pkn_lt rfl (fun z => ?_)
      rw [z] at q
      exact absurd q.1 (by decide)
    by_cases q2 : (pnum b n 4 (sk b n i) 0).1 < n ∧ 48 ≤ b (pnum b n 4 (sk b n i) 0).1 ∧ b (pnum b n 4 (sk b n i) 0).1 ≤ 57
    · rw [if_pos q2] at h
      cases h
    · rw [if_neg q2] at h
      obtain ⟨m', e1, e2⟩ := pnum_v T 4 (sk b n i) 0 (by decide)
      have e3 : (pnum b n 4 (sk b n i) 0).2 = Int32.ofNat m' := e1
      rw [e3, show (2000 : Int32) + Int32.ofNat m' = Int32.ofNat (2000 + m') by rw [Int32.ofNat_add]; rfl] at h
      rw [pk_of lt] at q
      have p1 : sk b n i < (pnum b n 4 (sk b n i) 0).1 := pnum_1 (d := 3) (v := 0) lt q.1 q.2
      have p2 := (pnum_i (b := b) 4 (sk b n i) 0 s2).2
      injection h with h
      injection h with h1 h2
      subst h1 h2
      obtain ⟨x1, x2⟩ := ex_num (H := 51 + 2 * w) (by omega) e2
      refine ⟨by omega, p2, by show 1 + i ≤ _; omega, x1, fun e _ => ?_⟩
      rw [x2]
      unfold bd
      rw [ti_nat (by omega)]
      omega
  · rw [if_neg q] at h
    cases hl : letR (pk b n i) with
    | some l =>
      rw [hl] at h
      obtain ⟨l1, l2, -⟩ := letR_v hl
      have lt : sk b n i < n := pkn_lt rfl l2
      replace h : (Sum.inr (sk b n i + 1, [1000 + Int32.ofNat l]) : zPR) = Sum.inr (i', c) := h
      rw [ix_k1000] at h
      injection h with h
      injection h with h1 h2
      subst h1 h2
      obtain ⟨x1, x2⟩ := ex_let (H := 51 + 2 * w) (by omega) l1
      refine ⟨by omega, by omega, by show 1 + i ≤ _; omega, x1, fun e he => ?_⟩
      rw [x2]
      have := he l l1
      unfold bd at this ⊢
      omega
    | none =>
      rw [hl] at h
      replace h : (if pk b n i = 91 then (if w < 6 then pB (hub (w + 1) (sk b n i + 1)) (fun i' c => pNeed b n 93 i' c) else .inl (sk b n i)) else .inl (sk b n i) : zPR) = Sum.inr (i', c) := h
      by_cases q3 : pk b n i = 91
      · rw [if_pos q3] at h
        have lt : sk b n i < n := pkn_lt q3 (by decide)
        by_cases q4 : w < 6
        · rw [if_pos q4] at h
          obtain ⟨i1, c1, h1, h2⟩ := pB_inr h
          obtain ⟨h3, h4⟩ := pNeed_inr h2
          obtain ⟨g1, g2, g3, g4, g5⟩ := hh q4 (sk b n i + 1) (by omega) i1 c1 h1
          have lt2 := pkn_lt h3 (by decide)
          have s3 := sk_ge (b := b) g2
          injection h4 with h5 h6
          subst h5 h6
          exact ⟨by omega, by omega, by omega, g4, g5⟩
        · rw [if_neg q4] at h
          cases h
      · rw [if_neg q3] at h
        cases h
theorem pTermL_g (T : TxB b n) {hub : Nat → Nat → zPR} {w i0 : Nat} (hw : w ≤ 6) (hh : w < 6 → ∀ j, j ≤ n → gM n j (51 + 2 * w) PS (hub (w + 1) j)) : ∀ (k i : Nat) (c : List Int32), i0 < i → i ≤ n → c.length + i0 ≤ i → exOK (50 + 2 * w) c → PS c → gM n i0 (50 + 2 * w) PS (pTermL b n hub w k i c)
  | 0, i, c, _, _, _, _, _ => fun i' c' h => by cases h
  | k + 1, i, c, h1, h2, h3, h4, h5 => by
    intro i' c' h
    have s1 := sk_ge (b := b) h2
    have s2 := sk_le (b := b) h2
    rw [pTermL] at h
    by_cases q : pk b n i = 42 ∨ pk b n i = 47
    · rw [if_pos q] at h
      have lt : sk b n i < n := by
        rcases q with q | q
        · exact pkn_lt q (by decide)
        · exact pkn_lt q (by decide)
      obtain ⟨i1, c1, e1, e2⟩ := pB_inr h
      obtain ⟨g1, g2, g3, g4, g5⟩ := pAtom_g T hw (show sk b n i + 1 ≤ n by omega) hh i1 c1 e1
      have jn : jnOk (pk b n i) := by
        unfold jnOk
        rcases q with q | q <;> simp [q]
      obtain ⟨x1, x2⟩ := ex_join h4 (show exOK (50 + 2 * w + 1) c1 from g4.mono (by omega)) jn
      refine pTermL_g T hw hh k i1 _ (by omega) g2 ?_ x1 (PS.join x2 (by rcases q with q | q <;> simp [q])) i' c' e2
      rw [List.length_append, List.length_append]
      show c.length + c1.length + 1 + i0 ≤ i1
      omega
    · rw [if_neg q] at h
      injection h with h
      injection h with e1 e2
      subst e1 e2
      exact ⟨by omega, s2, by omega, h4, h5⟩
theorem pTerm_g (T : TxB b n) {hub : Nat → Nat → zPR} {w i : Nat} (hw : w ≤ 6) (hi : i ≤ n) (hh : w < 6 → ∀ j, j ≤ n → gM n j (51 + 2 * w) PS (hub (w + 1) j)) : gM n i (50 + 2 * w) PS (pTerm b n hub w i) := by
  intro i' c h
  obtain ⟨i1, c1, e1, e2⟩ := pB_inr h
  obtain ⟨g1, g2, g3, g4, g5⟩ := pAtom_g T hw hi hh i1 c1 e1
  exact pTermL_g T hw hh 200 i1 c1 g1 g2 g3 (g4.mono (by omega)) g5 i' c e2
theorem pSumL_g (T : TxB b n) {hub : Nat → Nat → zPR} {w i0 : Nat} (hw : w ≤ 6) (hh : w < 6 → ∀ j, j ≤ n → gM n j (51 + 2 * w) PS (hub (w + 1) j)) : ∀ (k i : Nat) (c : List Int32), i0 < i → i ≤ n → c.length + i0 ≤ i → exOK (49 + 2 * w) c → PS c → gM n i0 (49 + 2 * w) PS (pSumL b n hub w k i c)
  | 0, i, c, _, _, _, _, _ => fun i' c' h => by cases h
  | k + 1, i, c, h1, h2, h3, h4, h5 => by
    intro i' c' h
    have s1 := sk_ge (b := b) h2
    have s2 := sk_le (b := b) h2
    rw [pSumL] at h
    by_cases q : pk b n i = 43 ∨ pk b n i = 45
    · rw [if_pos q] at h
      have lt : sk b n i < n := by
        rcases q with q | q
        · exact pkn_lt q (by decide)
        · exact pkn_lt q (by decide)
      obtain ⟨i1, c1, e1, e2⟩ := pB_inr h
      obtain ⟨g1, g2, g3, g4, g5⟩ := pTerm_g T hw (show sk b n i + 1 ≤ n by omega) hh i1 c1 e1
      have jn : jnOk (pk b n i) := by
        unfold jnOk
        rcases q with q | q <;> simp [q]
      obtain ⟨x1, x2⟩ := ex_join h4 (show exOK (49 + 2 * w + 1) c1 from g4.mono (by omega)) jn
      refine pSumL_g T hw hh k i1 _ (by omega) g2 ?_ x1 (PS.join x2 (by rcases q with q | q <;> simp [q])) i' c' e2
      rw [List.length_append, List.length_append]
      show c.length + c1.length + 1 + i0 ≤ i1
      omega
    · rw [if_neg q] at h
      injection h with h
      injection h with e1 e2
      subst e1 e2
      exact ⟨by omega, s2, by omega, h4, h5⟩
theorem pSumO_g (T : TxB b n) {hub : Nat → Nat → zPR} {w i : Nat} (hw : w ≤ 6) (hi : i ≤ n) (hh : w < 6 → ∀ j, j ≤ n → gM n j (51 + 2 * w) PS (hub (w + 1) j)) : gM n i (49 + 2 * w) PS (pSumO b n hub w i) := by
  intro i' c h
  obtain ⟨i1, c1, e1, e2⟩ := pB_inr h
  obtain ⟨g1, g2, g3, g4, g5⟩ := pTerm_g T hw hi hh i1 c1 e1
  exact pSumL_g T hw hh 200 i1 c1 g1 g2 g3 (g4.mono (by omega)) g5 i' c e2
theorem pSumG_g (T : TxB b n) : ∀ (g w i : Nat), w ≤ 6 → i ≤ n → gM n i (49 + 2 * w) PS (pSumG b n g w i)
  | 0, w, i, _, _ => fun i' c h => by cases h
  | g + 1, w, i, hw, hi => pSumO_g T hw hi (fun h6 j hj => by
      have := pSumG_g T g (w + 1) j (by omega) hj
      rw [show 49 + 2 * (w + 1) = 51 + 2 * w by omega] at this
      exact this)
theorem pSum_g (T : TxB b n) {w i : Nat} (hw : w ≤ 6) (hi : i ≤ n) : gM n i (49 + 2 * w) PS (pSum b n w i) := pSumG_g T 17 w i hw hi
theorem PC.join {c c' : List Int32} {o : Int32} (he : ∀ e, ev e (c ++ c' ++ [o]) = joinV o (ev e c) (ev e c')) (ho : o = 61 ∨ o = 60 ∨ o = 62) : PC (c ++ c' ++ [o]) := by
  intro e _
  rw [he]
  rcases ho with rfl | rfl | rfl
  · show (if _ then (1 : Int32) else 0) = 0 ∨ (if _ then (1 : Int32) else 0) = 1
    split <;> simp
  · show (if _ then (1 : Int32) else 0) = 0 ∨ (if _ then (1 : Int32) else 0) = 1
    split <;> simp
  · show (if _ then (1 : Int32) else 0) = 0 ∨ (if _ then (1 : Int32) else 0) = 1
    split <;> simp
theorem PC.bool {c c' : List Int32} {o : Int32} (he : ∀ e, ev e (c ++ c' ++ [o]) = joinV o (ev e c) (ev e c')) (ho : o = 38 ∨ o = 124) (h1 : PC c) (h2 : PC c') : PC (c ++ c' ++ [o]) := by
  intro e hb
  rw [he]
  rcases ho with rfl | rfl <;> rcases h1 e hb with h1 | h1 <;> rcases h2 e hb with h2 | h2 <;> rw [h1, h2] <;> decide
theorem PC.not {c : List Int32} (he : ∀ e, ev e (c ++ [33]) = 1 - ev e c) (h1 : PC c) : PC (c ++ [33]) := by
  intro e hb
  rw [he]
  rcases h1 e hb with h1 | h1 <;> rw [h1] <;> decide
theorem pRel_g (T : TxB b n) {w i i0 : Nat} {c0 : List Int32} (hw : w ≤ 6) (h1 : i0 < i) (h2 : i ≤ n) (h3 : c0.length + i0 ≤ i) (h4 : exOK (49 + 2 * w) c0) : gM n i0 (48 + 2 * w) PC (pRel b n w i c0) := by
  intro i' c h
  have s1 := sk_ge (b := b) h2
  have s2 := sk_le (b := b) h2
  unfold pRel at h
  by_cases q : pk b n i = 61 ∨ pk b n i = 60 ∨ pk b n i = 62
  · rw [if_pos q] at h
    have lt : sk b n i < n := by
      rcases q with q | q | q
      · exact pkn_lt q (by decide)
      · exact pkn_lt q (by decide)
      · exact pkn_lt q (by decide)
    obtain ⟨i1, c1, e1, e2⟩ := pB_inr h
    obtain ⟨g1, g2, g3, g4, g5⟩ := pSum_g T hw (show sk b n i + 1 ≤ n by omega) i1 c1 e1
    have jn : jnOk (pk b n i) := by
      unfold jnOk
      rcases q with q | q | q <;> simp [q]
    obtain ⟨x1, x2⟩ := ex_join (h4.mono (show 48 + 2 * w ≤ 49 + 2 * w by omega)) (show exOK (48 + 2 * w + 1) c1 from g4.mono (by omega)) jn
    injection e2 with e2
    injection e2 with e3 e4
    subst e3 e4
    refine ⟨by omega, g2, ?_, x1, PC.join x2 q⟩
    rw [List.length_append, List.length_append]
    show c0.length + c1.length + 1 + i0 ≤ i1
    omega
  · rw [if_neg q] at h
    cases h
theorem pUnitsL_g (T : TxB b n) {hub : Nat → Nat → zPR} {w i0 : Nat} (hh : ∀ j, j ≤ n → gM n j (48 + 2 * w) PC (hub w j)) : ∀ (k i : Nat) (c : List Int32), i0 < i → i ≤ n → c.length + i0 ≤ i → exOK (47 + 2 * w) c → PC c → gM n i0 (47 + 2 * w) PC (pUnitsL b n hub w k i c)
  | 0, i, c, _, _, _, _, _ => fun i' c' h => by cases h
  | k + 1, i, c, h1, h2, h3, h4, h5 => by
    intro i' c' h
    have s1 := sk_ge (b := b) h2
    have s2 := sk_le (b := b) h2
    rw [pUnitsL] at h
    by_cases q : pk b n i = 38
    · rw [if_pos q] at h
      have lt : sk b n i < n := pkn_lt q (by decide)
      obtain ⟨i1, c1, e1, e2⟩ := pB_inr h
      obtain ⟨g1, g2, g3, g4, g5⟩ := hh (sk b n i + 1) (by omega) i1 c1 e1
      obtain ⟨x1, x2⟩ := ex_join h4 (show exOK (47 + 2 * w + 1) c1 from g4.mono (by omega)) (o := 38) (Or.inl rfl)
      refine pUnitsL_g T hh k i1 _ (by omega) g2 ?_ x1 (PC.bool x2 (by simp) h5 g5) i' c' e2
      rw [List.length_append, List.length_append]
      show c.length + c1.length + 1 + i0 ≤ i1
      omega
    · rw [if_neg q] at h
      injection h with h
      injection h with e1 e2
      subst e1 e2
      exact ⟨by omega, s2, by omega, h4, h5⟩
theorem pTruth_g (T : TxB b n) {hub : Nat → Nat → zPR} {w i : Nat} (hi : i ≤ n) (hh : ∀ j, j ≤ n → gM n j (48 + 2 * w) PC (hub w j)) : gM n i (47 + 2 * w) PC (pTruth b n hub w i) := by
  intro i' c h
  obtain ⟨i1, c1, e1, e2⟩ := pB_inr h
  obtain ⟨g1, g2, g3, g4, g5⟩ := hh i hi i1 c1 e1
  exact pUnitsL_g T hh 200 i1 c1 g1 g2 g3 (g4.mono (by omega)) g5 i' c e2
theorem pTruthsL_g (T : TxB b n) {hub : Nat → Nat → zPR} {w i0 : Nat} (hh : ∀ j, j ≤ n → gM n j (48 + 2 * w) PC (hub w j)) : ∀ (k i : Nat) (c : List Int32), i0 < i → i ≤ n → c.length + i0 ≤ i → exOK (46 + 2 * w) c → PC c → gM n i0 (46 + 2 * w) PC (pTruthsL b n hub w k i c)
  | 0, i, c, _, _, _, _, _ => fun i' c' h => by cases h
  | k + 1, i, c, h1, h2, h3, h4, h5 => by
    intro i' c' h
    have s1 := sk_ge (b := b) h2
    have s2 := sk_le (b := b) h2
    rw [pTruthsL] at h
    by_cases q : pk b n i = 124
    · rw [if_pos q] at h
      have lt : sk b n i < n := pkn_lt q (by decide)
      obtain ⟨i1, c1, e1, e2⟩ := pB_inr h
      obtain ⟨g1, g2, g3, g4, g5⟩ := pTruth_g T (show sk b n i + 1 ≤ n by omega) hh i1 c1 e1
      obtain ⟨x1, x2⟩ := ex_join h4 (show exOK (46 + 2 * w + 1) c1 from g4.mono (by omega)) (o := 124) (Or.inr (Or.inl rfl))
      refine pTruthsL_g T hh k i1 _ (by omega) g2 ?_ x1 (PC.bool x2 (by simp) h5 g5) i' c' e2
      rw [List.length_append, List.length_append]
      show c.length + c1.length + 1 + i0 ≤ i1
      omega
    · rw [if_neg q] at h
      injection h with h
      injection h with e1 e2
      subst e1 e2
      exact ⟨by omega, s2, by omega, h4, h5⟩
theorem pCond_g (T : TxB b n) {hub : Nat → Nat → zPR} {w i : Nat} (hi : i ≤ n) (hh : ∀ j, j ≤ n → gM n j (48 + 2 * w) PC (hub w j)) : gM n i (46 + 2 * w) PC (pCond b n hub w i) := by
  intro i' c h
  obtain ⟨i1, c1, e1, e2⟩ := pB_inr h
  obtain ⟨g1, g2, g3, g4, g5⟩ := pTruth_g T hi hh i1 c1 e1
  exact pTruthsL_g T hh 200 i1 c1 g1 g2 g3 (g4.mono (by omega)) g5 i' c e2
theorem pUnitO_g (T : TxB b n) {hub : Nat → Nat → zPR} {w i : Nat} (hw : w ≤ 6) (hi : i ≤ n) (hh : w < 6 → ∀ j, j ≤ n → gM n j (50 + 2 * w) PC (hub (w + 1) j)) : gM n i (48 + 2 * w) PC (pUnitO b n hub w i) := by
  intro i' c h
  have s1 := sk_ge (b := b) hi
  have s2 := sk_le (b := b) hi
  unfold pUnitO at h
  by_cases q : pk b n i = 33
  · rw [if_pos q] at h
    have lt : sk b n i < n := pkn_lt q (by decide)
    by_cases q4 : w < 6
    · rw [if_pos q4] at h
      obtain ⟨i1, c1, e1, e2⟩ := pB_inr h
      obtain ⟨g1, g2, g3, g4, g5⟩ := hh q4 (sk b n i + 1) (by omega) i1 c1 e1
      obtain ⟨x1, x2⟩ := ex_not (g4.mono (show 48 + 2 * w ≤ 50 + 2 * w by omega))
      injection e2 with e2
      injection e2 with e3 e4
      subst e3 e4
      refine ⟨by omega, g2, ?_, x1, PC.not x2 g5⟩
      rw [List.length_append]
      show c1.length + 1 + i ≤ i1
      omega
    · rw [if_neg q4] at h
      cases h
  · rw [if_neg q] at h
    by_cases q3 : pk b n i = 40
    · rw [if_pos q3] at h
      have lt : sk b n i < n := pkn_lt q3 (by decide)
      by_cases q4 : w < 6
      · rw [if_pos q4] at h
        obtain ⟨i1, c1, h1, h2⟩ := pB_inr h
        obtain ⟨h3, h4⟩ := pNeed_inr h2
        obtain ⟨g1, g2, g3, g4, g5⟩ := pCond_g T (w := w + 1) (show sk b n i + 1 ≤ n by omega) (fun j hj => by
          rw [show 48 + 2 * (w + 1) = 50 + 2 * w by omega]
          exact hh q4 j hj) i1 c1 h1
        have lt2 := pkn_lt h3 (by decide)
        have s3 := sk_ge (b := b) g2
        injection h4 with h5 h6
        subst h5 h6
        exact ⟨by omega, by omega, by omega, g4.mono (by omega), g5⟩
      · rw [if_neg q4] at h
        cases h
    · rw [if_neg q3] at h
      obtain ⟨i1, c1, h1, h2⟩ := pB_inr h
      obtain ⟨g1, g2, g3, g4, g5⟩ := pSum_g T hw s2 i1 c1 h1
      exact pRel_g T hw (by omega) g2 (by omega) g4 i' c h2
theorem pUnitG_g (T : TxB b n) : ∀ (g w i : Nat), w ≤ 6 → i ≤ n → gM n i (48 + 2 * w) PC (pUnitG b n g w i)
  | 0, w, i, _, _ => fun i' c h => by cases h
  | g + 1, w, i, hw, hi => pUnitO_g T hw hi (fun h6 j hj => by
      have := pUnitG_g T g (w + 1) j (by omega) hj
      rw [show 48 + 2 * (w + 1) = 50 + 2 * w by omega] at this
      exact this)
end OB
