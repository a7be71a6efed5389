/-! text: the reference's loops (written by wip/whole/gen68.py). -/
section QE
variable {i1 i2 : Int32}
theorem t_L230 (ex : Int32 → zS → Option (Int32 × zS)) : ∀ (m i f : Nat) (S : zS), i + m = 24 → m < f → ∃ r, f_X12_text_L230 ex i1 i2 f (Int32.ofNat i) S = ex (Int32.ofNat 24) (sR S 46 r) ∧ (∀ k, i ≤ k → k < 24 → r k = S.1 47 k) ∧ ∀ k, (k < i ∨ 24 ≤ k) → r k = S.1 46 k
  | 0, i, f, S, hi, hf => by
    obtain ⟨z, rfl⟩ : ∃ z, f = z + 1 := ⟨f - 1, by omega⟩
    have e : i = 24 := by omega
    subst e
    rw [f_X12_text_L230, if_pos (show (24 : Int32) ≤ Int32.ofNat 24 by decide)]
    exact ⟨S.1 46, by rw [sR_self], fun k h1 h2 => by omega, fun k _ => rfl⟩
  | m + 1, i, f, S, hi, hf => by
    obtain ⟨z, rfl⟩ : ∃ z, f = z + 1 := ⟨f - 1, by omega⟩
    rw [f_X12_text_L230, if_neg (fun q => by have := (io_le (a := 24) (by omega) (by omega)).mp q; omega), if_pos (io_in (by omega) (by omega)), if_pos (io_in (by omega) (by omega)), io_cl (by omega), zlE, zlE, io_sc]
    obtain ⟨r, o1, o2, o3⟩ := t_L230 ex m (i + 1) z (sV S 46 i (S.1 47 i)) (by omega) (by omega)
    refine ⟨r, ?_, fun k h1 h2 => ?_, fun k h1 => ?_⟩
    · rw [o1, sV_eq, sR_sR]
    · by_cases e : k = i
      · subst e
        rw [o3 k (by omega), sV_g, if_pos ⟨rfl, rfl⟩]
      · rw [o2 k (by omega) h2, sV_g, if_neg (fun q => absurd q.1 (by decide))]
    · rw [o3 k (by omega), sV_g, if_neg (fun q => by omega)]
theorem t_L230' (ex : Int32 → zS → Option (Int32 × zS)) (S : zS) : f_X12_text_L230 ex i1 i2 zN 0 S = ex 24 (sR S 46 (fun k => if k < 24 then S.1 47 k else S.1 46 k)) := by
  obtain ⟨r, o1, o2, o3⟩ := t_L230 (i1 := i1) (i2 := i2) ex 24 0 zN S (by omega) (by unfold zN; omega)
  have e : r = fun k => if k < 24 then S.1 47 k else S.1 46 k := by
    funext k
    by_cases q : k < 24
    · rw [o2 k (by omega) q, if_pos q]
    · rw [o3 k (by omega), if_neg q]
  rw [← e]
  exact o1
theorem t_L256 (ex : Int32 → zS → Option (Int32 × zS)) : ∀ (m i f : Nat) (S : zS), i + m = 30 → m < f → ∃ r, f_X12_text_L256 ex i1 i2 f (Int32.ofNat i) S = ex (Int32.ofNat 30) (sR S 48 r) ∧ (∀ k, i ≤ k → k < 30 → r k = S.1 49 k) ∧ ∀ k, (k < i ∨ 30 ≤ k) → r k = S.1 48 k
  | 0, i, f, S, hi, hf => by
    obtain ⟨z, rfl⟩ : ∃ z, f = z + 1 := ⟨f - 1, by omega⟩
    have e : i = 30 := by omega
    subst e
    rw [f_X12_text_L256, if_pos (show (30 : Int32) ≤ Int32.ofNat 30 by decide)]
    exact ⟨S.1 48, by rw [sR_self], fun k h1 h2 => by omega, fun k _ => rfl⟩
  | m + 1, i, f, S, hi, hf => by
    obtain ⟨z, rfl⟩ : ∃ z, f = z + 1 := ⟨f - 1, by omega⟩
    rw [f_X12_text_L256, if_neg (fun q => by have := (io_le (a := 30) (by omega) (by omega)).mp q; omega), if_pos (io_in (by omega) (by omega)), if_pos (io_in (by omega) (by omega)), io_cl (by omega), zlE, zlE, io_sc]
    obtain ⟨r, o1, o2, o3⟩ := t_L256 ex m (i + 1) z (sV S 48 i (S.1 49 i)) (by omega) (by omega)
    refine ⟨r, ?_, fun k h1 h2 => ?_, fun k h1 => ?_⟩
    · rw [o1, sV_eq, sR_sR]
    · by_cases e : k = i
      · subst e
        rw [o3 k (by omega), sV_g, if_pos ⟨rfl, rfl⟩]
      · rw [o2 k (by omega) h2, sV_g, if_neg (fun q => absurd q.1 (by decide))]
    · rw [o3 k (by omega), sV_g, if_neg (fun q => by omega)]
theorem t_L256' (ex : Int32 → zS → Option (Int32 × zS)) (S : zS) : f_X12_text_L256 ex i1 i2 zN 0 S = ex 30 (sR S 48 (fun k => if k < 30 then S.1 49 k else S.1 48 k)) := by
  obtain ⟨r, o1, o2, o3⟩ := t_L256 (i1 := i1) (i2 := i2) ex 30 0 zN S (by omega) (by unfold zN; omega)
  have e : r = fun k => if k < 30 then S.1 49 k else S.1 48 k := by
    funext k
    by_cases q : k < 30
    · rw [o2 k (by omega) q, if_pos q]
    · rw [o3 k (by omega), if_neg q]
  rw [← e]
  exact o1
theorem t_L282 (ex : Int32 → zS → Option (Int32 × zS)) : ∀ (m i f : Nat) (S : zS), i + m = 8 → m < f → ∃ r, f_X12_text_L282 ex i1 i2 f (Int32.ofNat i) S = ex (Int32.ofNat 8) (sR S 50 r) ∧ (∀ k, i ≤ k → k < 8 → r k = S.1 51 k) ∧ ∀ k, (k < i ∨ 8 ≤ k) → r k = S.1 50 k
  | 0, i, f, S, hi, hf => by
    obtain ⟨z, rfl⟩ : ∃ z, f = z + 1 := ⟨f - 1, by omega⟩
    have e : i = 8 := by omega
    subst e
    rw [f_X12_text_L282, if_pos (show (8 : Int32) ≤ Int32.ofNat 8 by decide)]
    exact ⟨S.1 50, by rw [sR_self], fun k h1 h2 => by omega, fun k _ => rfl⟩
  | m + 1, i, f, S, hi, hf => by
    obtain ⟨z, rfl⟩ : ∃ z, f = z + 1 := ⟨f - 1, by omega⟩
    rw [f_X12_text_L282, if_neg (fun q => by have := (io_le (a := 8) (by omega) (by omega)).mp q; omega), if_pos (io_in (by omega) (by omega)), if_pos (io_in (by omega) (by omega)), io_cl (by omega), zlE, zlE, io_sc]
    obtain ⟨r, o1, o2, o3⟩ := t_L282 ex m (i + 1) z (sV S 50 i (S.1 51 i)) (by omega) (by omega)
    refine ⟨r, ?_, fun k h1 h2 => ?_, fun k h1 => ?_⟩
    · rw [o1, sV_eq, sR_sR]
    · by_cases e : k = i
      · subst e
        rw [o3 k (by omega), sV_g, if_pos ⟨rfl, rfl⟩]
      · rw [o2 k (by omega) h2, sV_g, if_neg (fun q => absurd q.1 (by decide))]
    · rw [o3 k (by omega), sV_g, if_neg (fun q => by omega)]
theorem t_L282' (ex : Int32 → zS → Option (Int32 × zS)) (S : zS) : f_X12_text_L282 ex i1 i2 zN 0 S = ex 8 (sR S 50 (fun k => if k < 8 then S.1 51 k else S.1 50 k)) := by
  obtain ⟨r, o1, o2, o3⟩ := t_L282 (i1 := i1) (i2 := i2) ex 8 0 zN S (by omega) (by unfold zN; omega)
  have e : r = fun k => if k < 8 then S.1 51 k else S.1 50 k := by
    funext k
    by_cases q : k < 8
    · rw [o2 k (by omega) q, if_pos q]
    · rw [o3 k (by omega), if_neg q]
  rw [← e]
  exact o1
theorem t_L308 (ex : Int32 → zS → Option (Int32 × zS)) : ∀ (m i f : Nat) (S : zS), i + m = 66 → m < f → ∃ r, f_X12_text_L308 ex i1 i2 f (Int32.ofNat i) S = ex (Int32.ofNat 66) (sR S 54 r) ∧ (∀ k, i ≤ k → k < 66 → r k = 0) ∧ ∀ k, (k < i ∨ 66 ≤ k) → r k = S.1 54 k
  | 0, i, f, S, hi, hf => by
    obtain ⟨z, rfl⟩ : ∃ z, f = z + 1 := ⟨f - 1, by omega⟩
    have e : i = 66 := by omega
    subst e
    rw [f_X12_text_L308, if_pos (show (66 : Int32) ≤ Int32.ofNat 66 by decide)]
    exact ⟨S.1 54, by rw [sR_self], fun k h1 h2 => by omega, fun k _ => rfl⟩
  | m + 1, i, f, S, hi, hf => by
    obtain ⟨z, rfl⟩ : ∃ z, f = z + 1 := ⟨f - 1, by omega⟩
    rw [f_X12_text_L308, if_neg (fun q => by have := (io_le (a := 66) (by omega) (by omega)).mp q; omega), if_pos (io_in (by omega) (by omega)), io_cl (by omega), zlE, zlE, io_sc]
    obtain ⟨r, o1, o2, o3⟩ := t_L308 ex m (i + 1) z (sV S 54 i 0) (by omega) (by omega)
    refine ⟨r, ?_, fun k h1 h2 => ?_, fun k h1 => ?_⟩
    · rw [o1, sV_eq, sR_sR]
    · by_cases e : k = i
      · subst e
        rw [o3 k (by omega), sV_g, if_pos ⟨rfl, rfl⟩]
      · exact o2 k (by omega) h2
    · rw [o3 k (by omega), sV_g, if_neg (fun q => by omega)]
theorem t_L308' (ex : Int32 → zS → Option (Int32 × zS)) (S : zS) : f_X12_text_L308 ex i1 i2 zN 0 S = ex 66 (sR S 54 (fun k => if k < 66 then 0 else S.1 54 k)) := by
  obtain ⟨r, o1, o2, o3⟩ := t_L308 (i1 := i1) (i2 := i2) ex 66 0 zN S (by omega) (by unfold zN; omega)
  have e : r = fun k => if k < 66 then 0 else S.1 54 k := by
    funext k
    by_cases q : k < 66
    · rw [o2 k (by omega) q, if_pos q]
    · rw [o3 k (by omega), if_neg q]
  rw [← e]
  exact o1
theorem t_L340 {nj : Nat} (n4 : nj ≤ 4) (ex : Int32 → Int32 → zS → Option (Int32 × zS)) : ∀ (m j c f : Nat) (S : zS), S.1 41 24 = Int32.ofNat nj → j < nj → c ≤ 3 → 4 * (nj - 1 - j) + (3 - c) = m → m < f → ∃ r q q', f_X12_text_L340 ex i1 i2 f (Int32.ofNat j) (Int32.ofNat c) S = ex q q' (sR S 54 r) ∧ ∀ k, r k = if k < 28 ∧ k % 7 < 3 ∧ k / 7 < nj ∧ 3 * j + c ≤ 3 * (k / 7) + k % 7 then S.1 46 (6 * (k / 7) + k % 7) else S.1 54 k := by
  intro m
  induction m using Nat.strongRecOn with
  | _ m ih =>
    intro j c f S h24 hj hc hm hf
    obtain ⟨z, rfl⟩ : ∃ z, f = z + 1 := ⟨f - 1, by omega⟩
    rw [f_X12_text_L340]
    by_cases c3 : c = 3
    · subst c3
      rw [if_pos (show (3 : Int32) ≤ Int32.ofNat 3 by decide), zlE, io_sc, h24]
      by_cases hl : j + 1 = nj
      · rw [if_pos ((io_le (by omega) (by omega)).mpr (by omega))]
        refine ⟨S.1 54, _, _, by rw [sR_self], fun k => ?_⟩
        rw [if_neg (fun q => by omega)]
      · rw [if_neg (fun q => by have := (io_le (by omega) (by omega)).mp q; omega)]
        obtain ⟨r, q, q', o1, o2⟩ := ih (4 * (nj - 1 - (j + 1)) + (3 - 0)) (by omega) (j + 1) 0 z S h24 (by omega) (by omega) rfl (by omega)
        refine ⟨r, q, q', o1, fun k => ?_⟩
        rw [o2 k]
        by_cases g : k < 28 ∧ k % 7 < 3 ∧ k / 7 < nj ∧ 3 * (j + 1) + 0 ≤ 3 * (k / 7) + k % 7
        · rw [if_pos g, if_pos (by omega)]
        · rw [if_neg g, if_neg (by omega)]
    · have e1 : 6 * Int32.ofNat j + Int32.ofNat c = Int32.ofNat (6 * j + c) := by rw [ix_m6, ix_aa]
      have e2 : 7 * Int32.ofNat j + Int32.ofNat c = Int32.ofNat (7 * j + c) := by rw [ix_m7, ix_aa]
      rw [if_neg (fun q => by have := (io_le (a := 3) (by omega) (by omega)).mp q; omega), e1, e2, if_pos (io_in (by omega) (by omega)), if_pos (io_in (by omega) (by omega)), io_cl (by omega), io_cl (by omega), zlE, zlE, io_sc]
      obtain ⟨r, q, q', o1, o2⟩ := ih (4 * (nj - 1 - j) + (3 - (c + 1))) (by omega) j (c + 1) z (sV S 54 (7 * j + c) (S.1 46 (6 * j + c))) (by rw [sV_g, if_neg (fun q => absurd q.1 (by decide))]; exact h24) hj (by omega) rfl (by omega)
      refine ⟨r, q, q', by rw [o1, sV_eq, sR_sR], fun k => ?_⟩
      rw [o2 k]
      by_cases e : k = 7 * j + c
      · subst e
        rw [if_neg (by omega), if_pos (by omega), sV_g, if_pos ⟨rfl, rfl⟩, show 6 * ((7 * j + c) / 7) + (7 * j + c) % 7 = 6 * j + c by omega]
      · by_cases g : k < 28 ∧ k % 7 < 3 ∧ k / 7 < nj ∧ 3 * j + (c + 1) ≤ 3 * (k / 7) + k % 7
        · rw [if_pos g, if_pos (by omega), sV_g, if_neg (fun q => absurd q.1 (by decide))]
        · rw [if_neg g, if_neg (by omega), sV_g, if_neg (fun q => e q.2)]
theorem t_L384 {nh : Nat} (n6 : nh ≤ 6) (ex : Int32 → zS → Option (Int32 × zS)) : ∀ (m i f : Nat) (S : zS), S.1 41 25 = Int32.ofNat nh → i + m = nh → m < f → ∃ r q, f_X12_text_L384 ex i1 i2 f (Int32.ofNat i) S = ex q (sR S 54 r) ∧ ∀ k, r k = if 28 ≤ k ∧ k < 40 ∧ i ≤ (k - 28) / 2 ∧ (k - 28) / 2 < nh then S.1 48 (5 * ((k - 28) / 2) + 2 * ((k - 28) % 2)) else S.1 54 k
  | 0, i, f, S, h25, hi, hf => by
    obtain ⟨z, rfl⟩ : ∃ z, f = z + 1 := ⟨f - 1, by omega⟩
    rw [f_X12_text_L384, h25, if_pos ((io_le (by omega) (by omega)).mpr (by omega))]
    refine ⟨S.1 54, _, by rw [sR_self], fun k => ?_⟩
    rw [if_neg (fun q => by omega)]
  | m + 1, i, f, S, h25, hi, hf => by
    obtain ⟨z, rfl⟩ : ∃ z, f = z + 1 := ⟨f - 1, by omega⟩
    have e1 : 5 * Int32.ofNat i = Int32.ofNat (5 * i) := ix_m5 i
    have e2 : (28 : Int32) + 2 * Int32.ofNat i = Int32.ofNat (28 + 2 * i) := by rw [ix_m2, ix_k28]
    rw [f_X12_text_L384, h25, if_neg (fun q => by have := (io_le (by omega) (by omega)).mp q; omega), e1, e2, ix_p2, ix_p1, if_pos (io_in (by omega) (by omega)), if_pos (io_in (by omega) (by omega)), io_cl (by omega), io_cl (by omega), zlE, if_pos (io_in (by omega) (by omega)), if_pos (io_in (by omega) (by omega)), io_cl (by omega), io_cl (by omega), zlE, zlE, io_sc, sV_g, if_neg (fun q => absurd q.1 (by decide))]
    obtain ⟨r, q, o1, o2⟩ := t_L384 n6 ex m (i + 1) z (sV (sV S 54 (28 + 2 * i) (S.1 48 (5 * i))) 54 (28 + 2 * i + 1) (S.1 48 (5 * i + 2))) (by rw [sV_g, if_neg (fun q => absurd q.1 (by decide)), sV_g, if_neg (fun q => absurd q.1 (by decide))]; exact h25) (by omega) (by omega)
    refine ⟨r, q, by rw [o1, sV_eq, sR_sR, sV_eq, sR_sR], fun k => ?_⟩
    rw [o2 k]
    by_cases c1 : k = 28 + 2 * i + 1
    · subst c1
      rw [if_neg (by omega), if_pos (by omega), sV_g, if_pos ⟨rfl, rfl⟩, show 5 * ((28 + 2 * i + 1 - 28) / 2) + 2 * ((28 + 2 * i + 1 - 28) % 2) = 5 * i + 2 by omega]
    · by_cases c2 : k = 28 + 2 * i
      · subst c2
        rw [if_neg (by omega), if_pos (by omega), sV_g, if_neg (fun q => by omega), sV_g, if_pos ⟨rfl, rfl⟩, show 5 * ((28 + 2 * i - 28) / 2) + 2 * ((28 + 2 * i - 28) % 2) = 5 * i by omega]
      · by_cases g : 28 ≤ k ∧ k < 40 ∧ i + 1 ≤ (k - 28) / 2 ∧ (k - 28) / 2 < nh
        · rw [if_pos g, if_pos (by omega), sV_g, if_neg (fun q => absurd q.1 (by decide)), sV_g, if_neg (fun q => absurd q.1 (by decide))]
        · rw [if_neg g, if_neg (by omega), sV_g, if_neg (fun q => c1 q.2), sV_g, if_neg (fun q => c2 q.2)]
theorem t_L137 {np : Nat} (n4 : np < 4) (ex : Int32 → zS → Option (Int32 × zS)) : ∀ (m i f : Nat) (S : zS), S.1 41 32 = Int32.ofNat np → i + m = 16 → m < f → ∃ r, f_X12_text_L137 ex i1 i2 f (Int32.ofNat i) S = ex (Int32.ofNat 16) (sR S 52 r) ∧ (∀ k, i ≤ k → k < 16 → r (16 * np + k) = S.1 52 (64 + k)) ∧ ∀ k, (k < 16 * np + i ∨ 16 * np + 16 ≤ k) → r k = S.1 52 k
  | 0, i, f, S, h32, hi, hf => by
    obtain ⟨z, rfl⟩ : ∃ z, f = z + 1 := ⟨f - 1, by omega⟩
    have e : i = 16 := by omega
    subst e
    rw [f_X12_text_L137, if_pos (show (16 : Int32) ≤ Int32.ofNat 16 by decide)]
    exact ⟨S.1 52, by rw [sR_self], fun k h1 h2 => by omega, fun k _ => rfl⟩
  | m + 1, i, f, S, h32, hi, hf => by
    obtain ⟨z, rfl⟩ : ∃ z, f = z + 1 := ⟨f - 1, by omega⟩
    rw [f_X12_text_L137, if_neg (fun q => by have := (io_le (a := 16) (by omega) (by omega)).mp q; omega), show (64 : Int32) + Int32.ofNat i = Int32.ofNat (64 + i) by rw [Int32.ofNat_add]; rfl, h32, ix_m16, ix_aa, if_pos (io_in (by omega) (by omega)), if_pos (io_in (by omega) (by omega)), io_cl (by omega), io_cl (by omega), zlE, zlE, io_sc]
    obtain ⟨r, o1, o2, o3⟩ := t_L137 n4 ex m (i + 1) z (sV S 52 (16 * np + i) (S.1 52 (64 + i))) (by rw [sV_g, if_neg (fun q => absurd q.1 (by decide))]; exact h32) (by omega) (by omega)
    refine ⟨r, by rw [o1, sV_eq, sR_sR], fun k h1 h2 => ?_, fun k h1 => ?_⟩
    · by_cases e : k = i
      · subst e
        rw [o3 _ (by omega), sV_g, if_pos ⟨rfl, rfl⟩]
      · rw [o2 k (by omega) h2, sV_g, if_neg (fun q => by omega)]
    · rw [o3 k (by omega), sV_g, if_neg (fun q => by omega)]
theorem t_L71 {nl n : Nat} (n4 : nl < 4) (n2 : n ≤ 200) (ex : Int32 → zS → Option (Int32 × zS)) : ∀ (m i f : Nat) (S : zS), S.1 41 7 = Int32.ofNat nl → i + m = n → m < f → ∃ r, f_X12_text_L71 ex i1 (Int32.ofNat n) f (Int32.ofNat i) S = ex (Int32.ofNat n) (sR S 43 r) ∧ (∀ k, i ≤ k → k < n → r (200 * nl + k) = vp_nar .byte (S.1 42 k)) ∧ ∀ k, (k < 200 * nl + i ∨ 200 * nl + n ≤ k) → r k = S.1 43 k
  | 0, i, f, S, h7, hi, hf => by
    obtain ⟨z, rfl⟩ : ∃ z, f = z + 1 := ⟨f - 1, by omega⟩
    have e : i = n := by omega
    subst e
    rw [f_X12_text_L71, if_pos (Int32.le_refl _)]
    exact ⟨S.1 43, by rw [sR_self], fun k h1 h2 => by omega, fun k _ => rfl⟩
  | m + 1, i, f, S, h7, hi, hf => by
    obtain ⟨z, rfl⟩ : ∃ z, f = z + 1 := ⟨f - 1, by omega⟩
    rw [f_X12_text_L71, if_neg (fun q => by have := (io_le (by omega) (by omega)).mp q; omega), h7, ix_m200, ix_aa, if_pos (io_in (by omega) (by omega)), if_pos (io_in (by omega) (by omega)), io_cl (by omega), io_cl (by omega), zlE, zlE, io_sc]
    obtain ⟨r, o1, o2, o3⟩ := t_L71 n4 n2 ex m (i + 1) z (sV S 43 (200 * nl + i) (vp_nar .byte (S.1 42 i))) (by rw [sV_g, if_neg (fun q => absurd q.1 (by decide))]; exact h7) (by omega) (by omega)
    refine ⟨r, by rw [o1, sV_eq, sR_sR], fun k h1 h2 => ?_, fun k h1 => ?_⟩
    · by_cases e : k = i
      · subst e
        rw [o3 _ (by omega), sV_g, if_pos ⟨rfl, rfl⟩]
      · rw [o2 k (by omega) h2, sV_g, if_neg (fun q => absurd q.1 (by decide))]
    · rw [o3 k (by omega), sV_g, if_neg (fun q => by omega)]
theorem r_fault_0 (S : zS) : f_X12_fault 0 S = zb (f_X12_readKitchen (sV S 41 0 0)) fun _ S' => some (S'.1 41 11, S') := by
  have e0 : (0 : Int64).toInt = 0 := by decide
  have e2 : (2 : Int64).toInt = 2 := by decide
  unfold f_X12_fault
  rw [zlE, r_isIn, zbE, e0, e2, if_pos (by decide)]
  simp only [zlE]
  rw [if_neg (nn trivial)]
  congr 1
theorem r_fault_1 (S : zS) : f_X12_fault 1 S = zb (f_X12_goThrough 42 0 ((sV S 41 0 0).1 41 6) (sV S 41 0 0)) fun _ S' => some (S'.1 41 11, S') := by
  have e0 : (0 : Int64).toInt = 0 := by decide
  have e2 : (2 : Int64).toInt = 2 := by decide
  unfold f_X12_fault
  rw [zlE, r_isIn, zbE, e0, e2, if_pos (by decide)]
  simp only [zlE]
  rw [if_pos (show ¬ (1 : Int32) = 0 by decide), if_neg (nn trivial)]
  congr 1
theorem r_fault_2 (S : zS) : f_X12_fault 2 S = zb (f_X12_readPlan (sV S 41 0 0)) fun _ S' => some (S'.1 41 11, S') := by
  have e0 : (0 : Int64).toInt = 0 := by decide
  have e2 : (2 : Int64).toInt = 2 := by decide
  unfold f_X12_fault
  rw [zlE, r_isIn, zbE, e0, e2, if_pos (by decide)]
  simp only [zlE]
  rw [if_pos (show ¬ (2 : Int32) = 0 by decide), if_pos (show ¬ (2 : Int32) = 1 by decide), if_neg (nn trivial)]
def kitE (S12 : zS) : Option (Int32 × zS) :=
  zl (sV (sV S12 41 6 0) 41 24 ((sV S12 41 6 0).1 41 27)) fun S20 =>
  zl (sV S20 41 25 (S20.1 41 28)) fun S21 =>
  zl (sV S21 41 26 (S21.1 41 29)) fun S22 =>
  f_X12_text_L230 (fun (q29 : Int32) (S28 : zS) =>
  f_X12_text_L256 (fun (q36 : Int32) (S35 : zS) =>
  f_X12_text_L282 (fun (q43 : Int32) (S42 : zS) =>
  f_X12_text_L308 (fun (q49 : Int32) (S48 : zS) =>
  f_X12_text_L329 (fun (q62 : Int32) (S61 : zS) =>
  f_X12_text_L384 (fun (q72 : Int32) (S71 : zS) =>
  zl (sV S71 41 35 (-1)) fun S73 =>
  zl (sV S73 41 50 0) fun S74 =>
  zl (sV S74 41 39 0) fun S75 =>
  zl (sV S75 41 40 0) fun S76 =>
  zl (sV S76 41 53 0) fun S77 =>
  some (S77.1 41 24, S77)) 0 (S12.1 41 6) zN 0 S61) 0 (S12.1 41 6) zN 0 S48) 0 (S12.1 41 6) zN 0 S42) 0 (S12.1 41 6) zN 0 S35) 0 (S12.1 41 6) zN 0 S28) 0 (S12.1 41 6) zN 0 S22
theorem r_text_0 (S : zS) : f_X12_text 0 S = zb (f_X12_fault 0 (sV S 41 0 0)) fun r13 S12 => if r13 = -1 then kitE S12 else some ((-1), S12) := by
  have e0 : (0 : Int64).toInt = 0 := by decide
  have e2 : (2 : Int64).toInt = 2 := by decide
  unfold f_X12_text kitE
  rw [zlE, r_isIn, zbE, e0, e2, if_neg (by decide)]
  simp only [zlE]
  rw [if_pos (show ¬ (0 : Int32) = 1 by decide), if_pos (show ¬ (0 : Int32) = 2 by decide)]
  refine congrArg (zb (f_X12_fault 0 (sV S 41 0 0))) ?_
  funext r13 S12
  rw [if_pos (show ¬ (0 : Int32) = 1 by decide), if_pos (show ¬ (0 : Int32) = 2 by decide)]
theorem r_text_1 (S : zS) : f_X12_text 1 S = if (sV S 41 0 0).1 41 7 = 4 then some ((-1), sV S 41 0 0) else zb (f_X12_fault 1 (sV S 41 0 0)) fun r13 S12 => if r13 = -1 then f_X12_text_L71 (fun (q94 : Int32) (S93 : zS) => if ia_in (S93.1 41 7) 4 = true then zl (sV S93 44 ((S93.1 41 7).toNatClampNeg) (S12.1 41 6)) fun S96 => zl (sV S96 41 7 ((S96.1 41 7) + 1)) fun S97 => some ((S97.1 41 7) - 1, S97) else none) 1 (S12.1 41 6) zN 0 (sV S12 41 6 0) else some ((-1), S12) := by
  have e0 : (0 : Int64).toInt = 0 := by decide
  have e2 : (2 : Int64).toInt = 2 := by decide
  unfold f_X12_text
  rw [zlE, r_isIn, zbE, e0, e2, if_neg (by decide)]
  simp only [zlE]
  rw [if_neg (nn trivial), if_pos (show ¬ (1 : Int32) = 2 by decide)]
  congr 1
theorem r_text_2 (S : zS) : f_X12_text 2 S = if (sV S 41 0 0).1 41 32 = 4 then some ((-1), sV S 41 0 0) else zb (f_X12_fault 2 (sV S 41 0 0)) fun r13 S12 => if r13 = -1 then f_X12_text_L137 (fun (q84 : Int32) (S83 : zS) => if ia_in (S83.1 41 32) 5 = true then zl (sV S83 53 ((S83.1 41 32).toNatClampNeg) (S83.1 53 4)) fun S86 => zl (sV S86 41 32 ((S86.1 41 32) + 1)) fun S87 => some ((S87.1 41 32) - 1, S87) else none) 2 (S12.1 41 6) zN 0 (sV S12 41 6 0) else some ((-1), S12) := by
  have e0 : (0 : Int64).toInt = 0 := by decide
  have e2 : (2 : Int64).toInt = 2 := by decide
  unfold f_X12_text
  rw [zlE, r_isIn, zbE, e0, e2, if_neg (by decide)]
  simp only [zlE]
  rw [if_pos (show ¬ (2 : Int32) = 1 by decide), if_neg (nn trivial)]
  congr 1
end QE
