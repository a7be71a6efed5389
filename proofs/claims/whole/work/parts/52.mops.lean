/-! What is fed. -/
section NI
variable {d M nj nh nt : Nat} {A B : zS}
theorem sw8 (x : BitVec 32) {s : Nat} (hs : s ≤ 24) : (x.sshiftRight s).setWidth 8 = (x >>> s).setWidth 8 := by
  apply BitVec.eq_of_getLsbD_eq
  intro i hi
  rw [BitVec.getLsbD_setWidth, BitVec.getLsbD_setWidth, BitVec.getLsbD_sshiftRight, BitVec.getLsbD_ushiftRight, if_pos (by omega), show decide (32 ≤ i) = false from decide_eq_false (by omega)]
  rfl
theorem sw8n (x : BitVec 32) {s : Nat} (hs : s ≤ 24) : (x.sshiftRight s).toNat % 256 = (x >>> s).toNat % 256 := by
  have h := congrArg BitVec.toNat (sw8 x hs)
  rw [BitVec.toNat_setWidth, BitVec.toNat_setWidth] at h
  exact h
theorem an255 (y : BitVec 32) : y &&& 255#32 = BitVec.ofNat 32 (y.toNat % 256) := by
  apply BitVec.eq_of_toNat_eq
  rw [BitVec.toNat_and]
  show y.toNat &&& (2 ^ 8 - 1) = y.toNat % 256 % 2 ^ 32
  rw [Nat.and_two_pow_sub_one_eq_mod]
  omega
def bB (v : Int32) (s : Nat) : Nat := (v.toBitVec >>> s).toNat % 256
theorem bB_lt (v : Int32) (s : Nat) : bB v s < 256 := Nat.mod_lt _ (by decide)
theorem nar8 (x : Int32) : vp_nar .byte x = x.toInt8.toInt32 := rfl
theorem by_all {v a r : Int32} {s : Nat} (hs : s ≤ 24) (e1 : a.toBitVec = v.toBitVec >>> s) (e2 : r.toBitVec = v.toBitVec.sshiftRight s) : a &&& 255 = Int32.ofNat (bB v s) ∧ r &&& 255 = Int32.ofNat (bB v s) ∧ vp_nar .byte (r.toInt8.toInt32) = vp_nar .byte (Int32.ofNat (bB v s)) := by
  refine ⟨Int32.toBitVec_inj.mp ?_, Int32.toBitVec_inj.mp ?_, ?_⟩
  · show a.toBitVec &&& 255#32 = BitVec.ofNat 32 (bB v s)
    rw [e1, an255]
    rfl
  · show r.toBitVec &&& 255#32 = BitVec.ofNat 32 (bB v s)
    rw [e2, an255, sw8n _ hs]
    rfl
  · rw [nar8, nar8]
    have e3 : r.toInt8 = (Int32.ofNat (bB v s)).toInt8 := by
      apply Int8.toBitVec_inj.mp
      show r.toBitVec.signExtend 8 = (BitVec.ofNat 32 (bB v s)).signExtend 8
      rw [BitVec.signExtend_eq_setWidth_of_le _ (by decide), BitVec.signExtend_eq_setWidth_of_le _ (by decide), e2, sw8 _ hs]
      apply BitVec.eq_of_toNat_eq
      rw [BitVec.toNat_setWidth, BitVec.toNat_setWidth, BitVec.toNat_ofNat]
      unfold bB
      omega
    rw [← e3]
    congr 1
    exact Int8.toInt8_toInt32 _
theorem by_24 (v : Int32) : ((v.toUInt32 >>> ((24 : Int32).toUInt32 &&& Int32.toUInt32 31)).toInt32) &&& 255 = Int32.ofNat (bB v 24) ∧ (v >>> ((24 : Int32) &&& 31)) &&& 255 = Int32.ofNat (bB v 24) ∧ vp_nar .byte ((v >>> ((24 : Int32) &&& 31)).toInt8.toInt32) = vp_nar .byte (Int32.ofNat (bB v 24)) := by_all (by omega) rfl rfl
theorem by_16 (v : Int32) : ((v.toUInt32 >>> ((16 : Int32).toUInt32 &&& Int32.toUInt32 31)).toInt32) &&& 255 = Int32.ofNat (bB v 16) ∧ (v >>> ((16 : Int32) &&& 31)) &&& 255 = Int32.ofNat (bB v 16) ∧ vp_nar .byte ((v >>> ((16 : Int32) &&& 31)).toInt8.toInt32) = vp_nar .byte (Int32.ofNat (bB v 16)) := by_all (by omega) rfl rfl
theorem by_8 (v : Int32) : ((v.toUInt32 >>> ((8 : Int32).toUInt32 &&& Int32.toUInt32 31)).toInt32) &&& 255 = Int32.ofNat (bB v 8) ∧ (v >>> ((8 : Int32) &&& 31)) &&& 255 = Int32.ofNat (bB v 8) ∧ vp_nar .byte ((v >>> ((8 : Int32) &&& 31)).toInt8.toInt32) = vp_nar .byte (Int32.ofNat (bB v 8)) := by_all (by omega) rfl rfl
theorem by_0 (v : Int32) : ((v.toUInt32 >>> ((0 : Int32).toUInt32 &&& Int32.toUInt32 31)).toInt32) &&& 255 = Int32.ofNat (bB v 0) ∧ (v >>> ((0 : Int32) &&& 31)) &&& 255 = Int32.ofNat (bB v 0) ∧ vp_nar .byte ((v >>> ((0 : Int32) &&& 31)).toInt8.toInt32) = vp_nar .byte (Int32.ofNat (bB v 0)) := by_all (by omega) rfl rfl
/-- shifts, the last first -/
def shN : Nat → Nat
  | 0 => 0
  | k + 1 => 8 * k
theorem by_k {k : Nat} (hk : k < 4) (v : Int32) : ((v.toUInt32 >>> ((Int32.ofNat (8 * k)).toUInt32 &&& Int32.toUInt32 31)).toInt32) &&& 255 = Int32.ofNat (bB v (8 * k)) ∧ (v >>> (Int32.ofNat (8 * k) &&& 31)) &&& 255 = Int32.ofNat (bB v (8 * k)) ∧ vp_nar .byte ((v >>> (Int32.ofNat (8 * k) &&& 31)).toInt8.toInt32) = vp_nar .byte (Int32.ofNat (bB v (8 * k))) := by
  rcases (show k = 0 ∨ k = 1 ∨ k = 2 ∨ k = 3 by omega) with rfl | rfl | rfl | rfl
  · exact by_0 v
  · exact by_8 v
  · exact by_16 v
  · exact by_24 v
def cnB (v : Int32) : Nat → Nat
  | 0 => 0
  | k + 1 => (if bB v (8 * k) = 0 then 0 else 1) + cnB v k
theorem cnB_le (v : Int32) : ∀ k, cnB v k ≤ k
  | 0 => Nat.le_refl _
  | k + 1 => by
    have := cnB_le v k
    unfold cnB
    split <;> omega
theorem m8 (k : Nat) : Int32.ofNat (8 * (k + 1)) - 8 + (-8) = Int32.ofNat (8 * k) - 8 := by
  rw [Nat.mul_add, Int32.ofNat_add, show Int32.ofNat (8 * 1) = 8 from rfl, Int32.add_sub_cancel, Int32.sub_eq_add_neg]
theorem n8 {k : Nat} (hk : k < 5) : (Int32.ofNat (8 * k) - 8 < 0 ↔ k = 0) := by
  rcases (show k = 0 ∨ k = 1 ∨ k = 2 ∨ k = 3 ∨ k = 4 by omega) with rfl | rfl | rfl | rfl | rfl <;> decide
theorem n8' (k : Nat) : Int32.ofNat (8 * (k + 1)) - 8 = Int32.ofNat (8 * k) := by
  rw [Nat.mul_add, Int32.ofNat_add, show Int32.ofNat (8 * 1) = 8 from rfl, Int32.add_sub_cancel]
theorem bz (v : Int32) (s : Nat) : Int32.ofNat (bB v s) = 0 ↔ bB v s = 0 := io_eq (b := 0) (by have := bB_lt v s; omega) (by omega)
theorem c_bytes (v : Int32) (A : zS) : f_X9_bytesOf v A = some (Int32.ofNat (cnB v 4), A) := by
  have L : ∀ (k n f : Nat), k < 5 → k < f → f_X9_bytesOf_L5 (fun (q8 : Int32) (q9 : Int32) (S7 : zS) => some (q8, S7)) v f (Int32.ofNat n) (Int32.ofNat (8 * k) - 8) A = some (Int32.ofNat (n + cnB v k), A) := by
    intro k
    induction k with
    | zero =>
      intro n f hk hf
      obtain ⟨f, rfl⟩ : ∃ g, f = g + 1 := ⟨f - 1, by omega⟩
      unfold f_X9_bytesOf_L5
      rw [if_pos ((n8 hk).mpr rfl)]
      rfl
    | succ k ih =>
      intro n f hk hf
      obtain ⟨f, rfl⟩ : ∃ g, f = g + 1 := ⟨f - 1, by omega⟩
      unfold f_X9_bytesOf_L5 cnB
      rw [if_neg (fun q => by have := (n8 hk).mp q; omega)]
      simp only [zlE, m8]
      rw [n8', (by_k (by omega) v).1]
      by_cases h : bB v (8 * k) = 0
      · rw [if_pos ((bz v _).mpr h), if_pos h, Nat.zero_add]
        exact ih n f (by omega) (by omega)
      · rw [if_neg (fun q => h ((bz v _).mp q)), if_neg h, io_sc, ← Nat.add_assoc]
        exact ih (n + 1) f (by omega) (by omega)
  unfold f_X9_bytesOf
  have e := L 4 0 zN (by omega) (by unfold zN; omega)
  rw [Nat.zero_add] at e
  exact e
theorem r_bytes (v : Int32) (B : zS) : f_X12_bytesIn v B = some (Int32.ofNat (cnB v 4), B) := by
  have L : ∀ (k n f : Nat), k < 5 → k < f → f_X12_bytesIn_L5 (fun (q8 : Int32) (q9 : Int32) (S7 : zS) => some (q8, S7)) v f (Int32.ofNat n) (Int32.ofNat (8 * k) - 8) B = some (Int32.ofNat (n + cnB v k), B) := by
    intro k
    induction k with
    | zero =>
      intro n f hk hf
      obtain ⟨f, rfl⟩ : ∃ g, f = g + 1 := ⟨f - 1, by omega⟩
      unfold f_X12_bytesIn_L5
      rw [if_pos ((n8 hk).mpr rfl)]
      rfl
    | succ k ih =>
      intro n f hk hf
      obtain ⟨f, rfl⟩ : ∃ g, f = g + 1 := ⟨f - 1, by omega⟩
      unfold f_X12_bytesIn_L5 cnB
      rw [if_neg (fun q => by have := (n8 hk).mp q; omega)]
      simp only [zlE, m8]
      rw [n8', (by_k (by omega) v).2.1]
      by_cases h : bB v (8 * k) = 0
      · rw [if_pos ((bz v _).mpr h), if_pos h, Nat.zero_add, Int32.add_zero]
        exact ih n f (by omega) (by omega)
      · rw [if_neg (fun q => h ((bz v _).mp q)), if_neg h, io_sc, ← Nat.add_assoc]
        exact ih (n + 1) f (by omega) (by omega)
  unfold f_X12_bytesIn
  have e := L 4 0 zN (by omega) (by unfold zN; omega)
  rw [Nat.zero_add] at e
  exact e
def tpC (A : zS) (n : Nat) (f : Nat → Int32) : zS := sR (sV A 1 1 (Int32.ofNat n)) 2 f
def tpR (B : zS) (n : Nat) (f : Nat → Int32) : zS := sR (sV B 41 6 (Int32.ofNat n)) 42 f
theorem tpC_w (A : zS) (n m : Nat) (f : Nat → Int32) (x : Int32) : sV (sV (tpC A n f) 2 n x) 1 1 (Int32.ofNat m) = tpC A m (ru f n x) := by
  unfold tpC
  rw [sV_eq _ 2, sR_at, sR_sR, sV_eq _ 1, sR_ne _ _ (by decide), sV_eq A, sR_at, ru_ru, sR_cm _ _ _ (by decide), sR_sR, sV_eq A]
theorem tpR_w (A : zS) (n m : Nat) (f : Nat → Int32) (x : Int32) : sV (sV (tpR A n f) 42 n x) 41 6 (Int32.ofNat m) = tpR A m (ru f n x) := by
  unfold tpR
  rw [sV_eq _ 42, sR_at, sR_sR, sV_eq _ 41, sR_ne _ _ (by decide), sV_eq A, sR_at, ru_ru, sR_cm _ _ _ (by decide), sR_sR, sV_eq A]
theorem tpC_l (A : zS) (n : Nat) (f : Nat → Int32) : (tpC A n f).1 1 1 = Int32.ofNat n := by
  unfold tpC
  rw [sR_ne _ _ (by decide), sV_eq, sR_at, ru_at]
theorem tpR_l (A : zS) (n : Nat) (f : Nat → Int32) : (tpR A n f).1 41 6 = Int32.ofNat n := by
  unfold tpR
  rw [sR_ne _ _ (by decide), sV_eq, sR_at, ru_at]
theorem add2 (v : Int32) {n : Nat} {f g : Nat → Int32} (hn : n + cnB v 4 ≤ 200) (hb : ∀ k, k < n → byteOk (f k) (g k)) :
    ∃ f' g', f_X9_add v (tpC A n f) = some ((), tpC A (n + cnB v 4) f') ∧ f_X12_put v (tpR B n g) = some ((), tpR B (n + cnB v 4) g') ∧ ∀ k, k < n + cnB v 4 → byteOk (f' k) (g' k) := by
  have L : ∀ (k n f1 : Nat) (f g : Nat → Int32), k < 5 → k < f1 → n + cnB v k ≤ 200 → (∀ k, k < n → byteOk (f k) (g k)) →
      ∃ f' g', f_X9_add_L3 (fun (q12 : Int32) (S11 : zS) => some ((), S11)) v f1 (Int32.ofNat (8 * k) - 8) (tpC A n f) = some ((), tpC A (n + cnB v k) f') ∧ f_X12_put_L3 (fun (q10 : Int32) (S9 : zS) => some ((), S9)) v f1 (Int32.ofNat (8 * k) - 8) (tpR B n g) = some ((), tpR B (n + cnB v k) g') ∧ ∀ i, i < n + cnB v k → byteOk (f' i) (g' i) := by
    intro k
    induction k with
    | zero =>
      intro n f1 f g hk hf hn hb
      obtain ⟨f1, rfl⟩ : ∃ g, f1 = g + 1 := ⟨f1 - 1, by omega⟩
      unfold f_X9_add_L3 f_X12_put_L3
      rw [if_pos ((n8 hk).mpr rfl), if_pos ((n8 hk).mpr rfl)]
      exact ⟨f, g, rfl, rfl, hb⟩
    | succ k ih =>
      intro n f1 f g hk hf hn hb
      obtain ⟨f1, rfl⟩ : ∃ g, f1 = g + 1 := ⟨f1 - 1, by omega⟩
      unfold cnB at hn
      unfold f_X9_add_L3 f_X12_put_L3 cnB
      have q : ¬ Int32.ofNat (8 * (k + 1)) - 8 < 0 := fun q => by have := (n8 hk).mp q; omega
      rw [if_neg q, if_neg q]
      simp only [zlE, m8]
      rw [n8', (by_k (by omega) v).1, (by_k (by omega) v).2.1, (by_k (by omega) v).2.2]
      by_cases h : bB v (8 * k) = 0
      · rw [if_pos ((bz v _).mpr h), if_neg (show ¬ ¬ Int32.ofNat (bB v (8 * k)) = 0 from fun q => q ((bz v _).mpr h)), if_pos h, Nat.zero_add]
        rw [if_pos h] at hn
        exact ih n f1 f g (by omega) (by omega) (by omega) hb
      · have hz : ¬ Int32.ofNat (bB v (8 * k)) = 0 := fun q => h ((bz v _).mp q)
        rw [if_neg h] at hn
        have h2 : ¬ (200 : Int32) ≤ Int32.ofNat n := fun q => by have := (io_le (a := 200) (by omega) (by omega)).mp q; omega
        rw [if_neg hz, if_pos hz, if_neg h, tpC_l, tpR_l, if_neg h2, if_pos (io_in (by omega) (by omega)), if_pos (io_in (by omega) (by omega)), io_cl (by omega)]
        have l1 : (sV (tpC A n f) 2 n (Int32.ofNat (bB v (8 * k)))).1 1 1 = Int32.ofNat n := by rw [sV_eq, sR_ne _ _ (by decide), tpC_l]
        have l2 : (sV (tpR B n g) 42 n (vp_nar .byte (Int32.ofNat (bB v (8 * k))))).1 41 6 = Int32.ofNat n := by rw [sV_eq, sR_ne _ _ (by decide), tpR_l]
        rw [l1, l2, io_sc, tpC_w, tpR_w, ← Nat.add_assoc]
        refine ih (n + 1) f1 _ _ (by omega) (by omega) (by omega) (fun i hi => ?_)
        by_cases hin : i = n
        · rw [hin, ru_at, ru_at]
          exact ⟨bB v (8 * k), by omega, bB_lt _ _, rfl, rfl⟩
        · rw [ru_ne hin, ru_ne hin]
          exact hb i (by omega)
  unfold f_X9_add f_X12_put
  exact L 4 n zN f g (by omega) (by unfold zN; omega) hn hb
theorem op_feed (H : InvD 0 M nj nh nt A B) (hM : M < 900000) (v1 v2 v3 v4 v5 : Int32) : Sim M (f_X11_feed v1 v2 v3 v4 v5 A) (f_X12_feed v1 v2 v3 v4 v5 B) := by
  have H0 := H.thr 0
  unfold f_X11_feed f_X12_feed
  rw [zlE]
  generalize sV B 41 0 0 = B0 at H0 ⊢
  have H0' := H0
  obtain ⟨u, -, ⟨n, n200, e1, e2, hb⟩, -⟩ := H0
  simp only [c_bytes, r_bytes, zbE, zlE, e1, e2, ← Int32.ofNat_add]
  have b1 := cnB_le v1 4
  have b2 := cnB_le v2 4
  have b3 := cnB_le v3 4
  have b4 := cnB_le v4 4
  have b5 := cnB_le v5 4
  rw [show n + (cnB v1 4 + cnB v2 4 + cnB v3 4 + cnB v4 4 + cnB v5 4) = n + cnB v1 4 + cnB v2 4 + cnB v3 4 + cnB v4 4 + cnB v5 4 by omega]
  by_cases hl : n + cnB v1 4 + cnB v2 4 + cnB v3 4 + cnB v4 4 + cnB v5 4 ≤ 200
  · have q : Int32.ofNat (n + cnB v1 4 + cnB v2 4 + cnB v3 4 + cnB v4 4 + cnB v5 4) ≤ 200 := (io_le (b := 200) (by omega) (by omega)).mpr hl
    rw [if_pos q, if_pos q]
    have sA : A = tpC A n (A.1 2) := by
      unfold tpC
      rw [sV_eq, ← e1, ru_self, sR_self, sR_self]
    have sB : B0 = tpR B0 n (B0.1 42) := by
      unfold tpR
      rw [sV_eq, ← e2, ru_self, sR_self, sR_self]
    obtain ⟨f1, g1, x1, y1, z1⟩ := add2 (A := A) (B := B0) v1 (n := n) (by omega) hb
    obtain ⟨f2, g2, x2, y2, z2⟩ := add2 (A := A) (B := B0) v2 (by omega) z1
    obtain ⟨f3, g3, x3, y3, z3⟩ := add2 (A := A) (B := B0) v3 (by omega) z2
    obtain ⟨f4, g4, x4, y4, z4⟩ := add2 (A := A) (B := B0) v4 (by omega) z3
    obtain ⟨f5, g5, x5, y5, z5⟩ := add2 (A := A) (B := B0) v5 (by omega) z4
    rw [← sA] at x1
    rw [← sB] at y1
    rw [x1, zbE, x2, zbE, x3, zbE, x4, zbE, x5, zbE, y1, zbE, y2, zbE, y3, zbE, y4, zbE, y5, zbE, tpC_l, tpR_l]
    exact sim_fin (M := M) (H0'.tape ⟨_, by omega, rfl, rfl, z5⟩) (by omega) rfl
  · have q : ¬ Int32.ofNat (n + cnB v1 4 + cnB v2 4 + cnB v3 4 + cnB v4 4 + cnB v5 4) ≤ 200 := fun q => hl ((io_le (b := 200) (by omega) (by omega)).mp q)
    rw [if_neg q, if_neg q]
    exact Sim.no H0' _
end NI
