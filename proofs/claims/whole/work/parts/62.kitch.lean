/-! Kitchens: the whole (written by wip/whole/gen62.py). -/
section PJ
variable {b : Nat → Int32} {n : Nat} {i : Nat} {f w : Int32} {S S2 : zS} {nj nh nt : Nat}
def KD (nj nh nt : Nat) (S S2 : zS) : Prop := (nj ≤ 4 ∧ nh ≤ 6 ∧ nt ≤ 4) ∧ (S.1 5 0 = Int32.ofNat nj ∧ S.1 5 1 = Int32.ofNat nh ∧ S.1 5 2 = Int32.ofNat nt) ∧ (S2.1 41 27 = Int32.ofNat nj ∧ S2.1 41 28 = Int32.ofNat nh ∧ S2.1 41 29 = Int32.ofNat nt) ∧ (∀ q, q < nj → KI0 q S S2) ∧ (∀ q, q < nh → KI1 q S S2) ∧ ∀ q, q < nt → KI2 q S S2
def P5 (a : Nat) : Prop := a = 5 ∨ a = 6
def frK (S S' : zS) : Prop := S'.2 = S.2 ∧ (∀ a, a ≠ 41 → a ≠ 47 → a ≠ 49 → a ≠ 51 → S'.1 a = S.1 a) ∧ ∀ k, k ≠ 27 → k ≠ 28 → k ≠ 29 → S'.1 41 k = S.1 41 k
theorem frK.rfl' (S : zS) : frK S S := ⟨rfl, fun _ _ _ _ _ => rfl, fun _ _ _ _ => rfl⟩
theorem frK.tr {S S' S2 : zS} (h1 : frK S S') (h2 : frK S' S2) : frK S S2 := ⟨h2.1.trans h1.1, fun a x1 x2 x3 x4 => (h2.2.1 a x1 x2 x3 x4).trans (h1.2.1 a x1 x2 x3 x4), fun k x1 x2 x3 => (h2.2.2 k x1 x2 x3).trans (h1.2.2 k x1 x2 x3)⟩
theorem frK.R {S S' : zS} (h : frK S S') (T : RTx S b n) : RTx S' b n := by
  unfold RTx
  rw [h.1, h.2.2 8 (by decide) (by decide) (by decide), h.2.2 9 (by decide) (by decide) (by decide), h.2.1 42 (by decide) (by decide) (by decide) (by decide), h.2.1 43 (by decide) (by decide) (by decide) (by decide)]
  exact T
theorem frX.P5 {S S' : zS} (h : frX P5 S S') (T : CTx S b n) : CTx S' b n := h.C (fun q => by rcases q with q | q <;> omega) (fun q => by rcases q with q | q <;> omega) T
theorem frc.P5 {S S' : zS} {lo hi k : Nat} {x : Int32} (h : frc 6 lo hi (sV S 5 k x) S') : frX P5 S S' := by
  refine ⟨h.1, fun a ha => ?_⟩
  rw [h.2.1 a (fun q => ha (Or.inr q)), sV_eq, sR_ne _ _ (fun q => ha (Or.inl q))]
theorem frc.K {S S' : zS} {r lo hi k : Nat} {x : Int32} (hr : r = 47 ∨ r = 49 ∨ r = 51) (hk : k = 27 ∨ k = 28 ∨ k = 29) (h : frc r lo hi (sV S 41 k x) S') : frK S S' := by
  refine ⟨h.1, fun a h1 h2 h3 h4 => ?_, fun j h1 h2 h3 => ?_⟩
  · rw [h.2.1 a (by omega), sV_eq, sR_ne _ _ h1]
  · rw [h.2.1 41 (by omega), sV_g, if_neg (fun q => by omega)]
theorem c_kf {u : Nat} (TB : TxB b n) (T : CTx S b n) (hi : i ≤ n) (hu : u < 256) (hp : pk b n i = Int32.ofNat u) (h : sx_0 u = -1 ∨ ∃ K, K < 3 ∧ sx_0 u = Int32.ofNat K ∧ ¬ S.1 5 K < zc_1000001 K) : f_X4_readClause (tS S i (-1)) = some ((), tS S (sk b n i) (Int32.ofNat (sk b n i))) := by
  have n2 := TB.1
  unfold f_X4_readClause
  rw [c_sign1 T n2 hi, zbE, hp, c_idx_0 hu, zbE, zlE, c_fail1, zbE]
  rcases h with h | ⟨K, k1, k2, k3⟩
  · rw [h, if_pos (show (-1 : Int32) < 0 by decide)]
  · rw [k2, if_neg (fun z => by rw [i_lt0, ti_nat (by omega)] at z; omega), if_pos (io_in (by omega) (by omega)), if_pos (io_in (by omega) (by omega)), io_cl (by omega), tS_b (by decide), if_neg k3]
theorem KD.up_0 {S' S2' : zS} (H : KD nj nh nt S S2) (hq : nj < 4) (h1 : frc 6 (0 + 6 * nj) (0 + 6 * nj + 6) (sV S 5 0 (Int32.ofNat (nj + 1))) S') (h2 : frc 47 (6 * nj) (6 * nj + 6) (sV S2 41 27 (Int32.ofNat (nj + 1))) S2') (hk : KI0 nj S' S2') : KD (nj + 1) nh nt S' S2' := by
  obtain ⟨⟨n4, n6, n44⟩, ⟨a0, a1, a2⟩, ⟨b0, b1, b2⟩, k0, k1, k2⟩ := H
  have r5 : ∀ k, S'.1 5 k = if k = 0 then Int32.ofNat (nj + 1) else S.1 5 k := fun k => by rw [h1.2.1 5 (by decide), sV_g]; simp only [true_and]
  have r41 : ∀ k, S2'.1 41 k = if k = 27 then Int32.ofNat (nj + 1) else S2.1 41 k := fun k => by rw [h2.2.1 41 (by decide), sV_g]; simp only [true_and]
  have r6 : ∀ k, (k < 0 + 6 * nj ∨ 0 + 6 * nj + 6 ≤ k) → S'.1 6 k = S.1 6 k := fun k hk => by rw [h1.2.2 k hk, sV_g, if_neg (fun q => absurd q.1 (by decide))]
  have rr : ∀ k, (k < 6 * nj ∨ 6 * nj + 6 ≤ k) → S2'.1 47 k = S2.1 47 k := fun k hk => by rw [h2.2.2 k hk, sV_g, if_neg (fun q => absurd q.1 (by decide))]
  have ro : ∀ a, a ≠ 47 → a ≠ 41 → S2'.1 a = S2.1 a := fun a x1 x2 => by rw [h2.2.1 a x1, sV_eq, sR_ne _ _ x2]
  refine ⟨⟨by omega, by omega, by omega⟩, ⟨?_, ?_, ?_⟩, ⟨?_, ?_, ?_⟩, fun q hq' => ?_, fun q hq' => ?_, fun q hq' => ?_⟩
  all_goals first | (rw [r5]; first | rfl | assumption) | (rw [r41]; first | rfl | assumption) | skip
  · by_cases e : q = nj
    · rw [e]
      exact hk
    · intro c hc
      rw [r6 _ (by omega), rr _ (by omega)]
      exact k0 q (by omega) c hc
  · intro c hc
    rw [r6 _ (by omega), ro 49 (by decide) (by decide)]
    exact k1 q hq' c hc
  · intro c hc
    rw [r6 _ (by omega), ro 51 (by decide) (by decide)]
    exact k2 q hq' c hc
theorem KD.up_1 {S' S2' : zS} (H : KD nj nh nt S S2) (hq : nh < 6) (h1 : frc 6 (24 + 5 * nh) (24 + 5 * nh + 5) (sV S 5 1 (Int32.ofNat (nh + 1))) S') (h2 : frc 49 (5 * nh) (5 * nh + 5) (sV S2 41 28 (Int32.ofNat (nh + 1))) S2') (hk : KI1 nh S' S2') : KD nj (nh + 1) nt S' S2' := by
  obtain ⟨⟨n4, n6, n44⟩, ⟨a0, a1, a2⟩, ⟨b0, b1, b2⟩, k0, k1, k2⟩ := H
  have r5 : ∀ k, S'.1 5 k = if k = 1 then Int32.ofNat (nh + 1) else S.1 5 k := fun k => by rw [h1.2.1 5 (by decide), sV_g]; simp only [true_and]
  have r41 : ∀ k, S2'.1 41 k = if k = 28 then Int32.ofNat (nh + 1) else S2.1 41 k := fun k => by rw [h2.2.1 41 (by decide), sV_g]; simp only [true_and]
  have r6 : ∀ k, (k < 24 + 5 * nh ∨ 24 + 5 * nh + 5 ≤ k) → S'.1 6 k = S.1 6 k := fun k hk => by rw [h1.2.2 k hk, sV_g, if_neg (fun q => absurd q.1 (by decide))]
  have rr : ∀ k, (k < 5 * nh ∨ 5 * nh + 5 ≤ k) → S2'.1 49 k = S2.1 49 k := fun k hk => by rw [h2.2.2 k hk, sV_g, if_neg (fun q => absurd q.1 (by decide))]
  have ro : ∀ a, a ≠ 49 → a ≠ 41 → S2'.1 a = S2.1 a := fun a x1 x2 => by rw [h2.2.1 a x1, sV_eq, sR_ne _ _ x2]
  refine ⟨⟨by omega, by omega, by omega⟩, ⟨?_, ?_, ?_⟩, ⟨?_, ?_, ?_⟩, fun q hq' => ?_, fun q hq' => ?_, fun q hq' => ?_⟩
  all_goals first | (rw [r5]; first | rfl | assumption) | (rw [r41]; first | rfl | assumption) | skip
  · intro c hc
    rw [r6 _ (by omega), ro 47 (by decide) (by decide)]
    exact k0 q hq' c hc
  · by_cases e : q = nh
    · rw [e]
      exact hk
    · intro c hc
      rw [r6 _ (by omega), rr _ (by omega)]
      exact k1 q (by omega) c hc
  · intro c hc
    rw [r6 _ (by omega), ro 51 (by decide) (by decide)]
    exact k2 q hq' c hc
theorem KD.up_2 {S' S2' : zS} (H : KD nj nh nt S S2) (hq : nt < 4) (h1 : frc 6 (54 + 2 * nt) (54 + 2 * nt + 2) (sV S 5 2 (Int32.ofNat (nt + 1))) S') (h2 : frc 51 (2 * nt) (2 * nt + 2) (sV S2 41 29 (Int32.ofNat (nt + 1))) S2') (hk : KI2 nt S' S2') : KD nj nh (nt + 1) S' S2' := by
  obtain ⟨⟨n4, n6, n44⟩, ⟨a0, a1, a2⟩, ⟨b0, b1, b2⟩, k0, k1, k2⟩ := H
  have r5 : ∀ k, S'.1 5 k = if k = 2 then Int32.ofNat (nt + 1) else S.1 5 k := fun k => by rw [h1.2.1 5 (by decide), sV_g]; simp only [true_and]
  have r41 : ∀ k, S2'.1 41 k = if k = 29 then Int32.ofNat (nt + 1) else S2.1 41 k := fun k => by rw [h2.2.1 41 (by decide), sV_g]; simp only [true_and]
  have r6 : ∀ k, (k < 54 + 2 * nt ∨ 54 + 2 * nt + 2 ≤ k) → S'.1 6 k = S.1 6 k := fun k hk => by rw [h1.2.2 k hk, sV_g, if_neg (fun q => absurd q.1 (by decide))]
  have rr : ∀ k, (k < 2 * nt ∨ 2 * nt + 2 ≤ k) → S2'.1 51 k = S2.1 51 k := fun k hk => by rw [h2.2.2 k hk, sV_g, if_neg (fun q => absurd q.1 (by decide))]
  have ro : ∀ a, a ≠ 51 → a ≠ 41 → S2'.1 a = S2.1 a := fun a x1 x2 => by rw [h2.2.1 a x1, sV_eq, sR_ne _ _ x2]
  refine ⟨⟨by omega, by omega, by omega⟩, ⟨?_, ?_, ?_⟩, ⟨?_, ?_, ?_⟩, fun q hq' => ?_, fun q hq' => ?_, fun q hq' => ?_⟩
  all_goals first | (rw [r5]; first | rfl | assumption) | (rw [r41]; first | rfl | assumption) | skip
  · intro c hc
    rw [r6 _ (by omega), ro 47 (by decide) (by decide)]
    exact k0 q hq' c hc
  · intro c hc
    rw [r6 _ (by omega), ro 49 (by decide) (by decide)]
    exact k1 q hq' c hc
  · by_cases e : q = nt
    · rw [e]
      exact hk
    · intro c hc
      rw [r6 _ (by omega), rr _ (by omega)]
      exact k2 q (by omega) c hc
theorem k_clause (TB : TxB b n) (T : CTx S b n) (T2 : RTx S2 b n) (hi : i ≤ n) (H : KD nj nh nt S S2) :
    (∃ S' S2' i' nj' nh' nt', f_X4_readClause (tS S i (-1)) = some ((), tS S' i' (-1)) ∧ f_X12_readClause (rS S2 i (-1) w) = some ((), rS S2' i' (-1) w) ∧ i < i' ∧ i' ≤ n ∧ frX P5 S S' ∧ frK S2 S2' ∧ KD nj' nh' nt' S' S2') ∨
    (∃ y S' S2' i1 f1 i2, f_X4_readClause (tS S i (-1)) = some ((), tS S' i1 f1) ∧ f_X12_readClause (rS S2 i (-1) w) = some ((), rS S2' i2 (Int32.ofNat y) w) ∧ y ≤ n ∧ stk b n y i1 f1 ∧ frX P5 S S' ∧ frK S2 S2') := by
  have n2 := TB.1
  have s2 := sk_le (b := b) hi
  obtain ⟨u, u1, u2⟩ := pk_v' TB hi
  have H' := H
  obtain ⟨⟨n4, n6, n44⟩, ⟨a0, a1, a2⟩, ⟨b0, b1, b2⟩, -⟩ := H'
  have bad : (f_X12_readClause (rS S2 i (-1) w) = zb (f_X12_fails (rS S2 (sk b n i) (-1) w)) fun r14 S13 => some ((), S13)) → (sx_0 u = -1 ∨ ∃ K, K < 3 ∧ sx_0 u = Int32.ofNat K ∧ ¬ S.1 5 K < zc_1000001 K) → (∃ y S' S2' i1 f1 i2, f_X4_readClause (tS S i (-1)) = some ((), tS S' i1 f1) ∧ f_X12_readClause (rS S2 i (-1) w) = some ((), rS S2' i2 (Int32.ofNat y) w) ∧ y ≤ n ∧ stk b n y i1 f1 ∧ frX P5 S S' ∧ frK S2 S2') := by
    intro h1 h2
    rw [h1, r_fails1, zbE, c_kf TB T hi u1 u2 h2]
    exact ⟨sk b n i, S, S2, _, _, _, rfl, rfl, s2, Or.inl ⟨s2, rfl⟩, frX.rfl' S, frK.rfl' S2⟩
  by_cases c0 : u = 106
  · have hc : pk b n i = 106 := by rw [u2, c0]; rfl
    have hlk : f_X12_look (rS S2 i (-1) w) = some (106, rS S2 (sk b n i) (-1) w) := by rw [r_look T2 hi, lk_pk (by decide) hc]
    by_cases g : nj < 4
    · rcases k_cl_0 (w := w) TB g T T2 hi hc a0 b0 with ⟨S', S2', i', o1, o2, o3, o4, o5, o6, o7⟩ | ⟨y, S', S2', k1, f1, k2, o1, o2, o3, o4, o5, o6⟩
      · left
        exact ⟨S', S2', i', _, _, _, o1, o2, o3, o4, o5.P5, o6.K (by decide) (by decide), H.up_0 g o5 o6 o7⟩
      · right
        exact ⟨y, S', S2', k1, f1, k2, o1, o2, o3, o4, o5.P5, o6.K (by decide) (by decide)⟩
    · right
      have e : nj = 4 := by omega
      refine bad (r_cf_106 hlk (by rw [rS_k (by decide), b0, e]; decide)) (Or.inr ⟨0, by decide, by rw [c0]; decide, ?_⟩)
      rw [a0, e]
      decide
  by_cases c1 : u = 104
  · have hc : pk b n i = 104 := by rw [u2, c1]; rfl
    have hlk : f_X12_look (rS S2 i (-1) w) = some (104, rS S2 (sk b n i) (-1) w) := by rw [r_look T2 hi, lk_pk (by decide) hc]
    by_cases g : nh < 6
    · rcases k_cl_1 (w := w) TB g T T2 hi hc a1 b1 with ⟨S', S2', i', o1, o2, o3, o4, o5, o6, o7⟩ | ⟨y, S', S2', k1, f1, k2, o1, o2, o3, o4, o5, o6⟩
      · left
        exact ⟨S', S2', i', _, _, _, o1, o2, o3, o4, o5.P5, o6.K (by decide) (by decide), H.up_1 g o5 o6 o7⟩
      · right
        exact ⟨y, S', S2', k1, f1, k2, o1, o2, o3, o4, o5.P5, o6.K (by decide) (by decide)⟩
    · right
      have e : nh = 6 := by omega
      refine bad (r_cf_104 hlk (by rw [rS_k (by decide), b1, e]; decide)) (Or.inr ⟨1, by decide, by rw [c1]; decide, ?_⟩)
      rw [a1, e]
      decide
  by_cases c2 : u = 116
  · have hc : pk b n i = 116 := by rw [u2, c2]; rfl
    have hlk : f_X12_look (rS S2 i (-1) w) = some (116, rS S2 (sk b n i) (-1) w) := by rw [r_look T2 hi, lk_pk (by decide) hc]
    by_cases g : nt < 4
    · rcases k_cl_2 (w := w) TB g T T2 hi hc a2 b2 with ⟨S', S2', i', o1, o2, o3, o4, o5, o6, o7⟩ | ⟨y, S', S2', k1, f1, k2, o1, o2, o3, o4, o5, o6⟩
      · left
        exact ⟨S', S2', i', _, _, _, o1, o2, o3, o4, o5.P5, o6.K (by decide) (by decide), H.up_2 g o5 o6 o7⟩
      · right
        exact ⟨y, S', S2', k1, f1, k2, o1, o2, o3, o4, o5.P5, o6.K (by decide) (by decide)⟩
    · right
      have e : nt = 4 := by omega
      refine bad (r_cf_116 hlk (by rw [rS_k (by decide), b2, e]; decide)) (Or.inr ⟨2, by decide, by rw [c2]; decide, ?_⟩)
      rw [a2, e]
      decide
  right
  have ne : ∀ x : Nat, x < 256 → 0 < x → u ≠ x → ¬ lk b n i = Int32.ofNat x := fun x hx h0 hn q => by
    rw [lk_eq (fun z => by have := (io_eq (b := 0) (by omega) (by omega)).mp z; omega) (io_ne1 (by omega)), u2] at q
    exact hn ((io_eq (by omega) (by omega)).mp q)
  refine bad (r_cf_no (r_look T2 hi) (ne 106 (by decide) (by decide) c0) (ne 104 (by decide) (by decide) c1) (ne 116 (by decide) (by decide) c2)) (Or.inl ?_)
  unfold sx_0
  rw [if_neg c0, if_neg c1, if_neg c2]
/-- both sides behind the last clause -/
def kE (S16 : zS) : Option (Int32 × zS) := zb (f_X9_needsEnd S16) fun _ S19 => zl (fun (u24 : Unit) => zb (f_X9_fail S19) fun _ S25 => some (S25.1 1 3, S25)) fun J23 => if (S19.1 5 0) = 0 then J23 () else if ¬ (S19.1 5 1) = 0 then some (S19.1 1 3, S19) else J23 ()
def rE (S20 : zS) : Option (Unit × zS) := if ¬ (S20.1 41 11) = (-1) then some ((), S20) else zb (f_X12_look S20) fun r24 S23 => zl (fun (u28 : Unit) => zb (f_X12_fails S23) fun r30 S29 => some ((), S29)) fun J27 => if ¬ r24 = (-1) then J27 () else if (S23.1 41 27) = 0 then J27 () else if ¬ (S23.1 41 28) = 0 then some ((), S23) else J27 ()
theorem k_endD (TB : TxB b n) (T : CTx S b n) (hi : i ≤ n) {y : Nat} (hy : y ≤ n) : kE (tS S i (Int32.ofNat y)) = some (Int32.ofNat y, tS S (sk b n i) (Int32.ofNat y)) := by
  have n2 := TB.1
  unfold kE
  rw [c_end0 T n2 hi (by omega), zbE, zlE, c_fail0 (by omega), zbE, tS_3]
  split
  · rfl
  · split <;> rfl
theorem k_endS (TB : TxB b n) (T : CTx S b n) (hi : i ≤ n) (h : sk b n i < n) : kE (tS S i (-1)) = some (Int32.ofNat (sk b n i), tS S (sk b n i) (Int32.ofNat (sk b n i))) := by
  have n2 := TB.1
  unfold kE
  rw [c_end1 T n2 hi, if_neg (fun z => (pk_0 TB hi).mp z h), zbE, zlE, c_fail0 (by omega), zbE, tS_3]
  split
  · rfl
  · split <;> rfl
theorem k_end (TB : TxB b n) (T : CTx S b n) (T2 : RTx S2 b n) (hi : i ≤ n) (H : KD nj nh nt S S2) : ∃ r, kE (tS S i (-1)) = some (r, tS S (sk b n i) r) ∧ rE (rS S2 i (-1) w) = some ((), rS S2 (sk b n i) r w) ∧ (r = -1 ∨ ∃ y, y ≤ n ∧ r = Int32.ofNat y) ∧ (r = -1 → 0 < nj ∧ 0 < nh) := by
  have n2 := TB.1
  have s2 := sk_le (b := b) hi
  obtain ⟨⟨n4, n6, n44⟩, ⟨a0, a1, a2⟩, ⟨b0, b1, b2⟩, -⟩ := H
  by_cases h : sk b n i < n
  · refine ⟨Int32.ofNat (sk b n i), k_endS TB T hi h, ?_, Or.inr ⟨_, s2, rfl⟩, fun q => absurd q (io_ne1 (by omega))⟩
    have ne : ¬ lk b n i = -1 := by
      unfold lk
      rw [if_pos h]
      obtain ⟨v, v0, v1, v2⟩ := TB.2 _ h
      rw [v2]
      exact io_ne1 (by omega)
    unfold rE
    rw [rS_11, if_neg m1, r_look T2 hi, zbE, zlE, if_pos ne, r_fails1, zbE]
  · have ne : lk b n i = -1 := if_neg h
    have z0 : ∀ k : Nat, k ≤ 6 → (Int32.ofNat k = 0 ↔ k = 0) := fun k hk => io_eq (b := 0) (by omega) (by omega)
    unfold kE rE
    rw [c_end1 T n2 hi, if_pos ((pk_0 TB hi).mpr h), zbE, zlE, c_fail1, zbE, tS_3, tS_b (by decide), a0, a1, tS_3, rS_11, if_neg m1, r_look T2 hi, zbE, zlE, if_neg (nn ne), r_fails1, zbE, rS_k (k := 27) (by decide), rS_k (k := 28) (by decide), b0, b1]
    by_cases q0 : nj = 0
    · rw [if_pos ((z0 nj (by omega)).mpr q0), if_pos ((z0 nj (by omega)).mpr q0)]
      exact ⟨_, rfl, rfl, Or.inr ⟨_, s2, rfl⟩, fun q => absurd q (io_ne1 (by omega))⟩
    · rw [if_neg (fun q => q0 ((z0 nj (by omega)).mp q)), if_neg (fun q => q0 ((z0 nj (by omega)).mp q))]
      by_cases q1 : nh = 0
      · rw [if_neg (nn ((z0 nh (by omega)).mpr q1)), if_neg (nn ((z0 nh (by omega)).mpr q1))]
        exact ⟨_, rfl, rfl, Or.inr ⟨_, s2, rfl⟩, fun q => absurd q (io_ne1 (by omega))⟩
      · rw [if_pos (fun q => q1 ((z0 nh (by omega)).mp q)), if_pos (fun q => q1 ((z0 nh (by omega)).mp q))]
        exact ⟨_, rfl, rfl, Or.inl rfl, fun _ => ⟨by omega, by omega⟩⟩
theorem k_kitL (TB : TxB b n) : ∀ (d i x fu fu2 : Nat) (S S2 : zS) (nj nh nt : Nat), n - i ≤ d → i ≤ n → x + x ≤ i → d + 2 < fu → d + 2 < fu2 → CTx S b n → RTx S2 b n → KD nj nh nt S S2 →
    ∃ r S' S2' i1 f1 i2, f_X4_firstWrong_L18 (fun (q17 : Int32) (q18 : Int32) (S16 : zS) => kE S16) fu 1 (Int32.ofNat x) (tS S i (-1)) = some (r, tS S' i1 f1) ∧ f_X12_readKitchen_L30 (fun (q21 : Int32) (S20 : zS) => rE S20) fu2 1 (rS S2 i (-1) w) = some ((), rS S2' i2 r w) ∧ frX P5 S S' ∧ frK S2 S2' ∧ (r = -1 ∨ ∃ y, y ≤ n ∧ r = Int32.ofNat y) ∧ (r = -1 → ∃ nj nh nt, KD nj nh nt S' S2' ∧ 0 < nj ∧ 0 < nh) := by
  intro d
  induction d with
  | zero =>
    intro i x fu fu2 S S2 nj nh nt hd hi hx hf hf2 T T2 H
    obtain ⟨z, rfl⟩ : ∃ z, fu = z + 1 := ⟨fu - 1, by omega⟩
    obtain ⟨z2, rfl⟩ : ∃ z2, fu2 = z2 + 1 := ⟨fu2 - 1, by omega⟩
    obtain ⟨z', rfl⟩ : ∃ z', z = z' + 1 := ⟨z - 1, by omega⟩
    obtain ⟨z2', rfl⟩ : ∃ z2', z2 = z2' + 1 := ⟨z2 - 1, by omega⟩
    have n2 := TB.1
    have e1 : sk b n i = i := by rw [sk_un, if_neg (fun q => by omega)]
    rcases k_clause (w := w) TB T T2 hi H with ⟨S', S2', i', nj', nh', nt', o1, o2, o3, o4, o5, o6, o7⟩ | ⟨y, S', S2', k1, f1, k2, o1, o2, o3, o4, o5, o6⟩
    · omega
    · have T' := o5.P5 T
      rw [f_X4_firstWrong_L18, if_neg (show ¬ (1 : Int32) = 0 by decide), if_neg (fun q => by have := (io_le (a := 200) (by omega) (by omega)).mp q; omega), o1, zbE, f_X12_readKitchen_L30, if_neg (show ¬ (1 : Int32) = 0 by decide), rS_11, if_neg m1, o2, zbE, zlE, rS_11, if_pos (io_ne1 (by omega))]
      dsimp only
      rw [f_X12_readKitchen_L30, if_pos rfl]
      rcases o4 with ⟨p1, p2⟩ | ⟨p1, p2, p3, p4, p5⟩
      · subst p2
        rw [c_takes0 T' n2 p1 (by omega) (by decide), zbE, zlE, f_X4_firstWrong_L18, if_pos rfl, k_endD TB T' (sk_le p1) o3]
        refine ⟨_, S', S2', _, _, k2, rfl, ?_, o5, o6, Or.inr ⟨y, o3, rfl⟩, fun q => absurd q (io_ne1 (by omega))⟩
        unfold rE
        rw [rS_11, if_pos (io_ne1 (by omega))]
      · subst p2
        rw [c_takes1 T' n2 p1, if_neg p5, zbE, zlE, f_X4_firstWrong_L18, if_pos rfl, k_endS TB T' (sk_le p1) (by rw [sk_sk p1]; omega), sk_sk p1, p3]
        refine ⟨_, S', S2', _, _, k2, rfl, ?_, o5, o6, Or.inr ⟨y, o3, rfl⟩, fun q => absurd q (io_ne1 (by omega))⟩
        unfold rE
        rw [rS_11, if_pos (io_ne1 (by omega))]
  | succ d ih =>
    intro i x fu fu2 S S2 nj nh nt hd hi hx hf hf2 T T2 H
    obtain ⟨z, rfl⟩ : ∃ z, fu = z + 1 := ⟨fu - 1, by omega⟩
    obtain ⟨z2, rfl⟩ : ∃ z2, fu2 = z2 + 1 := ⟨fu2 - 1, by omega⟩
    obtain ⟨z', rfl⟩ : ∃ z', z = z' + 1 := ⟨z - 1, by omega⟩
    obtain ⟨z2', rfl⟩ : ∃ z2', z2 = z2' + 1 := ⟨z2 - 1, by omega⟩
    have n2 := TB.1
    rw [f_X4_firstWrong_L18, if_neg (show ¬ (1 : Int32) = 0 by decide), if_neg (fun q => by have := (io_le (a := 200) (by omega) (by omega)).mp q; omega), f_X12_readKitchen_L30, if_neg (show ¬ (1 : Int32) = 0 by decide), rS_11, if_neg m1]
    rcases k_clause (w := w) TB T T2 hi H with ⟨S', S2', i', nj', nh', nt', o1, o2, o3, o4, o5, o6, o7⟩ | ⟨y, S', S2', k1, f1, k2, o1, o2, o3, o4, o5, o6⟩
    · have T' := o5.P5 T
      have T2' := o6.R T2
      have t1 := sk_ge (b := b) o4
      have t2 := sk_le (b := b) o4
      rw [o1, zbE, c_takes1 T' n2 o4, o2, zbE, zlE, rS_11, if_neg m1, r_look T2' o4, zbE]
      simp only [lk_eq (show (59 : Int32) ≠ 0 by decide) (by decide), rS_up, zlE]
      by_cases q3 : pk b n i' = 59
      · have lt := pkn_lt q3 (by decide)
        rw [if_pos q3, zbE, io_sc, if_neg (nn q3)]
        obtain ⟨r, S3, S4, j1, f3, j2, p1, p2, p3, p4, p5, p6⟩ := ih (sk b n i' + 1) (x + 1) (z' + 1) (z2' + 1) S' S2' nj' nh' nt' (by omega) (by omega) (by omega) (by omega) (by omega) T' T2' o7
        exact ⟨r, S3, S4, j1, f3, j2, p1, p2, o5.tr p3, o6.tr p4, p5, p6⟩
      · rw [if_neg q3, zbE, if_pos q3, f_X4_firstWrong_L18, if_pos rfl, f_X12_readKitchen_L30, if_pos rfl]
        obtain ⟨r, p1, p2, p3, p4⟩ := k_end (w := w) TB T' T2' t2 o7
        rw [p1, p2]
        exact ⟨r, S', S2', _, _, _, rfl, rfl, o5, o6, p3, fun q => ⟨_, _, _, o7, p4 q⟩⟩
    · have T' := o5.P5 T
      rw [o1, zbE, o2, zbE, zlE, rS_11, if_pos (io_ne1 (by omega))]
      dsimp only
      rw [f_X12_readKitchen_L30, if_pos rfl]
      have rd : rE (rS S2' k2 (Int32.ofNat y) w) = some ((), rS S2' k2 (Int32.ofNat y) w) := by
        unfold rE
        rw [rS_11, if_pos (io_ne1 (by omega))]
      rw [rd]
      rcases o4 with ⟨p1, p2⟩ | ⟨p1, p2, p3, p4, p5⟩
      · subst p2
        rw [c_takes0 T' n2 p1 (by omega) (by decide), zbE, zlE, f_X4_firstWrong_L18, if_pos rfl, k_endD TB T' (sk_le p1) o3]
        exact ⟨_, S', S2', _, _, k2, rfl, rfl, o5, o6, Or.inr ⟨y, o3, rfl⟩, fun q => absurd q (io_ne1 (by omega))⟩
      · subst p2
        rw [c_takes1 T' n2 p1, if_neg p5, zbE, zlE, f_X4_firstWrong_L18, if_pos rfl, k_endS TB T' (sk_le p1) (by rw [sk_sk p1]; omega), sk_sk p1, p3]
        exact ⟨_, S', S2', _, _, k2, rfl, rfl, o5, o6, Or.inr ⟨y, o3, rfl⟩, fun q => absurd q (io_ne1 (by omega))⟩
theorem k_kit {A B : zS} (TB : TxB b n) (T : CTx A b n) (h6 : B.1 41 6 = Int32.ofNat n) (ht : ∀ k, k < n → byteOk (b k) (B.1 42 k)) :
    ∃ r A' B', f_X4_firstWrong A = some (r, A') ∧ f_X12_readKitchen B = some ((), B') ∧ B'.1 41 11 = r ∧ frT P5 A A' ∧ frR (fun a => a = 47 ∨ a = 49 ∨ a = 51) B B' ∧ (r = -1 ∨ ∃ y, y ≤ n ∧ r = Int32.ofNat y) ∧ (r = -1 → ∃ nj nh nt, KD nj nh nt A' B' ∧ 0 < nj ∧ 0 < nh) := by
  have hn := TB.1
  obtain ⟨X, x1, x2, x3, x4, x5, x6⟩ := r_starts (S := B) (b := b) (n := n) (bb := 42) (q := 0) (Or.inl rfl) (fun _ => by omega) (fun h => by cases h) hn (fun k hk => by rw [Nat.zero_add]; exact ht k hk)
  obtain ⟨Y, hY⟩ : ∃ Y, Y = sR A 5 (fun k => if k < 3 then 0 else A.1 5 k) := ⟨_, rfl⟩
  have TY : CTx Y b n := by
    rw [hY]
    exact ⟨by rw [sR_ne _ _ (by decide)]; exact T.1, by rw [sR_ne _ _ (by decide)]; exact T.2⟩
  obtain ⟨Z, hZ⟩ : ∃ Z, Z = sV (sV (sV X 41 27 0) 41 28 0) 41 29 0 := ⟨_, rfl⟩
  have TZ : RTx Z b n := by
    rw [hZ]
    exact ((x2.s41 (by decide) (by decide) 0).s41 (by decide) (by decide) 0).s41 (by decide) (by decide) 0
  have z41 : ∀ k, Z.1 41 k = if k = 29 then 0 else if k = 28 then 0 else if k = 27 then 0 else X.1 41 k := by
    intro k
    rw [hZ]
    simp only [sV_g, true_and]
  have zo : ∀ a, a ≠ 41 → Z.1 a = X.1 a := by
    intro a ha
    rw [hZ]
    funext k
    simp only [sV_g, ha, false_and, if_false]
  have K0 : KD 0 0 0 Y Z := by
    refine ⟨by decide, ⟨?_, ?_, ?_⟩, ⟨by rw [z41]; rfl, by rw [z41]; rfl, by rw [z41]; rfl⟩, fun q h => absurd h (Nat.not_lt_zero _), fun q h => absurd h (Nat.not_lt_zero _), fun q h => absurd h (Nat.not_lt_zero _)⟩
    all_goals rw [hY, sR_at]; rfl
  obtain ⟨r, S', S2', i1, f1, i2, o1, o2, o3, o4, o5, o6⟩ := k_kitL (w := B.1 41 12) TB n 0 0 zN zN Y Z 0 0 0 (by omega) (by omega) (by omega) (by unfold zN; omega) (by unfold zN; omega) TY TZ K0
  refine ⟨r, tS S' i1 f1, rS S2' i2 r (B.1 41 12), ?_, ?_, rS_11, ⟨?_, fun a h1 h2 => ?_, fun k h1 h2 => ?_⟩, ⟨fun a h1 h2 => ?_, fun k h1 h2 h3 h4 h5 => ?_, ?_, fun a k h => ?_⟩, o5, fun q => ?_⟩
  · unfold f_X4_firstWrong f_X10_clear
    rw [rewind_eq, zbE, c_fill (q := 5) (N := 3) (by decide), zbE, zbE]
    have e : sR (tS A 0 (-1)) 5 (fun k => if k < 3 then 0 else (tS A 0 (-1)).1 5 k) = tS Y 0 (-1) := by
      rw [hY]
      unfold tS
      rw [sR_ne _ _ (by decide), sR_ne _ _ (by decide), sR_cm _ _ _ (by decide)]
    rw [e]
    exact o1
  · unfold f_X12_readKitchen
    rw [h6, show f_X12_starts 42 0 (Int32.ofNat n) B = _ from x1, zbE, zlE, zlE, zlE, rS_sk (by decide), rS_sk (by decide), rS_sk (by decide), ← hZ]
    exact o2
  · rw [tS_q, o3.1, hY]
    rfl
  · rw [tS_b h1, o3.2 a h2, hY, sR_ne _ _ (fun q => h2 (Or.inl q))]
  · unfold tS
    rw [sR_at, ru_ne h2, ru_ne h1, o3.2 1 (fun q => by rcases q with q | q <;> omega), hY, sR_ne _ _ (by decide)]
  · rw [rS_b h1, o4.2.1 a h1 (fun q => h2 (Or.inl q)) (fun q => h2 (Or.inr (Or.inl q))) (fun q => h2 (Or.inr (Or.inr q))), zo a h1, x3 a h1]
  · rw [rS_k (by omega), o4.2.2 k h3 h4 h5, z41, if_neg h5, if_neg h4, if_neg h3, x4 k (by omega) (by omega) (by omega) (by omega)]
  · rw [rS_2, o4.1, hZ]
    exact x5
  · rw [rS_2, o4.1, hZ]
    exact x6 a k h
  · obtain ⟨nj, nh, nt, KK, p1, p2⟩ := o6 q
    refine ⟨nj, nh, nt, ?_, p1, p2⟩
    obtain ⟨q1, ⟨q2, q3, q4⟩, ⟨q5, q6, q7⟩, q8, q9, q10⟩ := KK
    refine ⟨q1, ⟨by rw [tS_b (by decide)]; exact q2, by rw [tS_b (by decide)]; exact q3, by rw [tS_b (by decide)]; exact q4⟩, ⟨by rw [rS_k (by decide)]; exact q5, by rw [rS_k (by decide)]; exact q6, by rw [rS_k (by decide)]; exact q7⟩, fun q hq => ?_, fun q hq => ?_, fun q hq => ?_⟩
    · unfold KI0
      rw [tS_b (by decide), rS_b (by decide)]
      exact q8 q hq
    · unfold KI1
      rw [tS_b (by decide), rS_b (by decide)]
      exact q9 q hq
    · unfold KI2
      rw [tS_b (by decide), rS_b (by decide)]
      exact q10 q hq
end PJ
