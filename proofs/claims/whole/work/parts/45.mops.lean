/-! Sets of hands: opens, share. -/
section NB
variable {d M nj nh nt : Nat} {A B : zS}
theorem and1 (x : Int32) : x &&& 1 = 0 ∨ x &&& 1 = 1 := by
  have h : (x &&& 1).toBitVec = x.toBitVec &&& 1#32 := rfl
  have e : x.toBitVec &&& 1#32 = 0#32 ∨ x.toBitVec &&& 1#32 = 1#32 := by
    by_cases hb : x.toBitVec.getLsbD 0 = true
    · right
      apply BitVec.eq_of_getLsbD_eq
      intro i hi
      rw [BitVec.getLsbD_and, BitVec.getLsbD_one]
      by_cases h0 : i = 0
      · subst h0
        rw [hb]
        rfl
      · simp [h0]
    · left
      apply BitVec.eq_of_getLsbD_eq
      intro i hi
      rw [BitVec.getLsbD_and, BitVec.getLsbD_one]
      by_cases h0 : i = 0
      · subst h0
        have hb' : x.toBitVec.getLsbD 0 = false := by cases hz : x.toBitVec.getLsbD 0 with
          | false => rfl
          | true => exact absurd hz hb
        rw [hb']
        rfl
      · simp [h0]
  rcases e with e | e
  · exact Or.inl (Int32.toBitVec_inj.mp (h.trans e))
  · exact Or.inr (Int32.toBitVec_inj.mp (h.trans e))
def canM (g : Nat → Int32) (rest s : Int32) : Nat → Nat → Int32 → Int32
  | 0, _, _ => 0
  | k + 1, h, l => if ¬ ((s >>> (Int32.ofNat h &&& 31)) &&& 1) = 1 then canM g rest s k (h + 1) l else if g h < rest + l then canM g rest s k (h + 1) (m0 (l - g h / 10)) else 1
theorem canM_01 (g : Nat → Int32) (rest s : Int32) : ∀ k h l, canM g rest s k h l = 0 ∨ canM g rest s k h l = 1
  | 0, _, _ => Or.inl rfl
  | k + 1, h, l => by
    unfold canM
    split
    · exact canM_01 g rest s k (h + 1) l
    · split
      · exact canM_01 g rest s k (h + 1) _
      · exact Or.inr rfl
/-- the crowd is gathered -/
def Crw (nh : Nat) (g : Nat → Int32) (stuck rest : Int32) (A : zS) : Prop := A.1 35 1 = Int32.ofNat nh ∧ A.1 35 2 = stuck ∧ A.1 35 3 = rest ∧ ∀ h, h < nh → A.1 36 h = g h
theorem c_canOpen {g : Nat → Int32} {stuck rest : Int32} (hC : Crw nh g stuck rest A) (n6 : nh ≤ 6) (s : Int32) : f_X0_canOpen s A = some (canM g rest s nh 0 stuck, A) := by
  obtain ⟨c1, c2, c3, c4⟩ := hC
  have L : ∀ (k h f : Nat) (l : Int32), h + k = nh → k < f → f_X0_canOpen_L7 (fun _ _ S13 => some (0, S13)) s f l (Int32.ofNat h) A = some (canM g rest s k h l, A) := by
    intro k
    induction k with
    | zero =>
      intro h f l hi hf
      obtain ⟨f, rfl⟩ : ∃ g, f = g + 1 := ⟨f - 1, by omega⟩
      have hi : h = nh := by omega
      subst hi
      unfold f_X0_canOpen_L7
      rw [c1, if_pos (Int32.le_refl _)]
      rfl
    | succ k ih =>
      intro h f l hi hf
      obtain ⟨f, rfl⟩ : ∃ g, f = g + 1 := ⟨f - 1, by omega⟩
      have hlt : ¬ Int32.ofNat nh ≤ Int32.ofNat h := fun q => by have := (io_le (by omega) (by omega)).mp q; omega
      unfold f_X0_canOpen_L7 f_X0_stuckBehind canM
      rw [c1, if_neg hlt, c3]
      simp (disch := omega) only [zlE, io_in, io_cl, if_true, zbE, io_sc, c4 h (by omega)]
      by_cases hb : ((s >>> (Int32.ofNat h &&& 31)) &&& 1) = 1
      · have hbn : ¬ ¬ ((s >>> (Int32.ofNat h &&& 31)) &&& 1) = 1 := fun q => q hb
        rw [if_neg hbn, if_neg hbn]
        by_cases hg : g h < rest + l
        · rw [if_pos hg, if_pos hg]
          exact ih (h + 1) f _ (by omega) (by omega)
        · rw [if_neg hg, if_neg hg]
      · rw [if_pos hb, if_pos hb]
        exact ih (h + 1) f l (by omega) (by omega)
  unfold f_X0_canOpen
  rw [zlE, c2]
  exact L nh 0 zN stuck (by omega) (by unfold zN; omega)
/-- what the crowd changes -/
def sCr (A A' : zS) : Prop := A'.2 = A.2 ∧ ∀ b, b ≠ 15 → b ≠ 16 → b ≠ 35 → b ≠ 36 → A'.1 b = A.1 b
theorem sCr.tr {A B C : zS} (h1 : sCr A B) (h2 : sCr B C) : sCr A C := ⟨h2.1.trans h1.1, fun b h3 h4 h5 h6 => (h2.2 b h3 h4 h5 h6).trans (h1.2 b h3 h4 h5 h6)⟩
theorem sCr.of {A A' : zS} (h : sameC A A') : sCr A A' := ⟨h.1, fun b h1 h2 _ _ => h.2 b h1 h2⟩
theorem sCr.row {A : zS} {a : Nat} (ha : a = 35 ∨ a = 36) (r : Nat → Int32) : sCr A (sR A a r) := ⟨rfl, fun b _ _ h3 h4 => sR_ne _ _ (by omega)⟩
theorem sCr.obs {A A' : zS} (h : sCr A A') (hl : ∃ x, A.2.1 0 18 = .long x) : obsC A A' :=
  ⟨fun b hb => h.2 b (by omega) (by omega) (by omega) (by omega), by rw [h.2 1 (by decide) (by decide) (by decide) (by decide)], by rw [h.1], fun b k _ => by rw [h.1], by rw [h.1]; exact hl⟩
theorem LawC.cr {W : zLw} {A A' : zS} (H : LawC A W) (h : sCr A A') : LawC A' W := H.of (by rw [h.1]) (by rw [h.1]) (fun b hb => h.2 b (by omega) (by omega) (by omega) (by omega))
theorem c_gather {W : zLw} (w1 : LawC A W) {tb : Nat} (hT : A.1 18 64 = Int32.ofNat tb) (hb : tb < 4) (h12 : A.1 12 1 = Int32.ofNat nh) (n6 : nh ≤ 6) :
    ∃ A', f_X0_gather_17 A = some ((), A') ∧ sCr A A' ∧ Crw nh (fun h => gripM W (A.1 13) (fun k => A.1 13 (24 + k)) (fun k => A.1 13 (54 + k)) (A.1 18) h none tb) (A.1 18 (7 * tb + 1)) (holdM (A.1 18) tb - A.1 18 (7 * tb + 1)) A' := by
  have L : ∀ (k h f : Nat) (U : zS) (ex : Int32 → zS → Option (Unit × zS)), h + k = nh → k < f → sCr A U → U.1 35 1 = Int32.ofNat nh → (∀ i, i < h → U.1 36 i = gripM W (A.1 13) (fun k => A.1 13 (24 + k)) (fun k => A.1 13 (54 + k)) (A.1 18) i none tb) →
      ∃ U', f_X0_gather_17_L15 ex f (Int32.ofNat h) U = ex (Int32.ofNat nh) U' ∧ sCr A U' ∧ U'.1 35 = U.1 35 ∧ ∀ i, i < nh → U'.1 36 i = gripM W (A.1 13) (fun k => A.1 13 (24 + k)) (fun k => A.1 13 (54 + k)) (A.1 18) i none tb := by
    intro k
    induction k with
    | zero =>
      intro h f U ex hi hf hs h35 hg
      obtain ⟨f, rfl⟩ : ∃ g, f = g + 1 := ⟨f - 1, by omega⟩
      have hi : h = nh := by omega
      subst hi
      unfold f_X0_gather_17_L15
      rw [h35, if_pos (Int32.le_refl _)]
      exact ⟨U, rfl, hs, rfl, hg⟩
    | succ k ih =>
      intro h f U ex hi hf hs h35 hg
      obtain ⟨f, rfl⟩ : ∃ g, f = g + 1 := ⟨f - 1, by omega⟩
      have hlt : ¬ Int32.ofNat nh ≤ Int32.ofNat h := fun q => by have := (io_le (by omega) (by omega)).mp q; omega
      have u18 : U.1 18 = A.1 18 := hs.2 18 (by decide) (by decide) (by decide) (by decide)
      have u13 : U.1 13 = A.1 13 := hs.2 13 (by decide) (by decide) (by decide) (by decide)
      obtain ⟨V, ga, sa⟩ := c_gripOn (w1.cr hs) (o := 17) (h := h) (j := tb) (t := none) (by decide) (by decide) (by omega) hb (fun k hk => by cases hk)
      have ga' : f_X7_gripOn 17 (Int32.ofNat h) (-1) (Int32.ofNat tb) U = _ := ga
      unfold f_X0_gather_17_L15
      rw [h35, if_neg hlt, c_onTable (o := 17) (by rw [u18]; exact hT), zbE, ga', zbE, if_pos (io_in (by omega) (by omega)), io_cl (by omega), zlE, sV_eq, zlE, io_sc, u13, show 17 + 1 = 18 from rfl, u18]
      obtain ⟨U', z1, z2, z3, z4⟩ := ih (h + 1) f (sR V 36 (ru (V.1 36) h (gripM W (A.1 13) (fun k => A.1 13 (24 + k)) (fun k => A.1 13 (54 + k)) (A.1 18) h none tb))) ex (by omega) (by omega) ((hs.tr (sCr.of sa)).tr (sCr.row (by omega) _)) (by rw [sR_ne _ _ (by decide), sa.2 35 (by decide) (by decide)]; exact h35) (fun i hi2 => by
        rw [sR_at]
        by_cases hih : i = h
        · rw [hih, ru_at]
        · rw [ru_ne hih, sa.2 36 (by decide) (by decide)]
          exact hg i (by omega))
      exact ⟨U', z1, z2, by rw [z3, sR_ne _ _ (by decide), sa.2 35 (by decide) (by decide)], z4⟩
  have s0 : sCr A (sR A 35 (ru (A.1 35) 1 (Int32.ofNat nh))) := sCr.row (by omega) _
  unfold f_X0_gather_17
  rw [zlE, h12, sV_eq]
  obtain ⟨U', z1, z2, z3, z4⟩ := L nh 0 zN _ (fun (q13 : Int32) (S12 : zS) => zb (f_X7_lid 17 1 S12) fun r15 S14 => zl (sV S14 35 2 r15) fun S17 => zb (f_X7_onTable 17 S17) fun r19 S18 => zb (f_X7_hold 17 r19 S18) fun r22 S21 => zl (sV S21 35 3 (r22 - (S21.1 35 2))) fun S24 => some ((), S24)) (by omega) (by unfold zN; omega) s0 (by rw [sR_at, ru_at]) (fun i hi => absurd hi (by omega))
  have u18 : U'.1 18 = A.1 18 := z2.2 18 (by decide) (by decide) (by decide) (by decide)
  have u64 : U'.1 18 64 = Int32.ofNat tb := by rw [u18]; exact hT
  refine ⟨sR U' 35 (ru (ru (U'.1 35) 2 (A.1 18 (7 * tb + 1))) 3 (holdM (A.1 18) tb - A.1 18 (7 * tb + 1))), z1.trans ?_, z2.tr (sCr.row (by omega) _), ?_⟩
  · rw [c_lid (o := 17) (x := 1) (c := 1) u64 hb (by omega) rfl, zbE, zlE, sV_eq, c_onTable (o := 17) (tb := tb) (by rw [show 17 + 1 = 18 from rfl, sR_ne _ _ (by decide)]; exact u64), zbE, c_hold hb, zbE, zlE, sV_eq, sR_at, sR_sR, ru_at, show 17 + 1 = 18 from rfl, sR_ne _ (b := 18) _ (by decide), u18]
  · have q35 : U'.1 35 1 = Int32.ofNat nh := by rw [z3, sR_at, ru_at]
    refine ⟨?_, ?_, ?_, fun h hh => ?_⟩
    · rw [sR_at, ru_ne (by decide), ru_ne (by decide)]; exact q35
    · rw [sR_at, ru_ne (by decide), ru_at]
    · rw [sR_at, ru_at]
    · rw [sR_ne _ _ (by decide)]; exact z4 h hh
/-- a trial row behind tries of hands ahead of h, not open -/
def TrI (jT : Nat → Int32) (nj M tb h : Nat) (l : Int32) (n t : Nat → Int32) : Prop := t 64 = Int32.ofNat tb ∧ t (7 * tb) = n (7 * tb) ∧ t (7 * tb + 2) = n (7 * tb + 2) ∧ t (7 * tb + 1) = l ∧ t (7 * tb + 5) = 0 ∧ t (7 * tb + 6) = 0 ∧ (∀ i, h ≤ i → i < 6 → t (28 + 2 * i) = n (28 + 2 * i) ∧ t (28 + 2 * i + 1) = n (28 + 2 * i + 1)) ∧ RowOk jT nj M t
theorem ring1 (v s c l : Int32) : v + s + 2 * c - s + l = v + l + 2 * c := by
  rw [Int32.sub_eq_add_neg, Int32.add_assoc v s, Int32.add_comm s, ← Int32.add_assoc v, Int32.add_assoc _ s, Int32.add_right_neg, Int32.add_zero, Int32.add_assoc, Int32.add_comm (2 * c) l, ← Int32.add_assoc]
theorem try_TrI {jT hT n t : Nat → Int32} {M' tb h : Nat} {l g : Int32} (hb : tb < 4) (hh : h < 6) (hM : M' < 990000) (ht : 0 ≤ (hT (5 * h + 3)).toInt) (hg : 0 ≤ g.toInt) (T : TrI jT nj M' tb h l n t) (hlt : g < holdM t tb) : TrI jT nj (M' + 1) tb (h + 1) (m0 (l - g / 10)) n (tryM loR hT tb h g t) := by
  obtain ⟨x1, x2, x3, x4, x5, x6, x7, x8⟩ := T
  have lo1 : 40 ≤ loR tb h ∧ loR tb h < 64 := by unfold loR; omega
  have Rk := x8.tri (hT := hT) (lo := loR) (h := h) (by omega) hb hh lo1 ht hg
  unfold tryM at Rk ⊢
  rw [if_pos hlt] at Rk ⊢
  refine ⟨?_, ?_, ?_, ?_, ?_, ?_, fun i h1 h2 => ?_, Rk⟩
  all_goals unfold tireM looseM
  · simp (disch := omega) only [um_ne]; exact x1
  · simp (disch := omega) only [um_ne]; exact x2
  · simp (disch := omega) only [um_ne]; exact x3
  · rw [um_ne (by omega), um_ne (by omega), um_ne (by omega), um_at, x4]
  · simp (disch := omega) only [um_ne]; exact x5
  · simp (disch := omega) only [um_ne]; exact x6
  · simp (disch := omega) only [um_ne]; exact x7 i (by omega) h2
theorem r_setL {W : zLw} {B0 : zS} (T0 : ITold nj nh nt A B0) (w2 : LawR B0 W) {tb : Nat} (hb : tb < 4) (hM : M < 900000) (s : Int32) : ∀ (k h f : Nat) (l : Int32) (B : zS), h + k = nh → k < f → sRun B0 B → TrI (B0.1 46) nj (M + h) tb h l (B0.1 54) (B.1 55) →
    ∃ B', f_X12_setDoes_L14 (fun (q21 : Int32) (S20 : zS) => if ia_in ((7 * (S20.1 55 64)) + 5) 66 = true then if ¬ (S20.1 55 ((7 * (S20.1 55 64)) + 5).toNatClampNeg) = 1 then some (0, S20) else some (1, S20) else none) s f (Int32.ofNat h) B = some (canM (fun h => gripM W (B0.1 46) (B0.1 48) (B0.1 50) (B0.1 54) h none tb) (holdM (B0.1 54) tb - B0.1 54 (7 * tb + 1)) s k h l, B') ∧ sRun B0 B' := by
  obtain ⟨t1, t2, t3, t4, t5, t6, t7, t8, t9, t10, t11⟩ := T0
  have n6 := t11.2.1
  have n01 : ¬ (0 : Int32) = 1 := by decide
  have i5 : ia_in (7 * Int32.ofNat tb + 5) 66 = true := by simp (disch := omega) only [ix_m7, ix_p5, io_in]
  have c5 : (7 * Int32.ofNat tb + 5).toNatClampNeg = 7 * tb + 5 := by simp (disch := omega) only [ix_m7, ix_p5, io_cl]
  have i3 : ia_in (6 * Int32.ofNat tb + 3) 24 = true := by simp (disch := omega) only [ix_m6, ix_p3, io_in]
  have c3 : (6 * Int32.ofNat tb + 3).toNatClampNeg = 6 * tb + 3 := by simp (disch := omega) only [ix_m6, ix_p3, io_cl]
  intro k
  induction k with
  | zero =>
    intro h f l B hi hf hs hT
    obtain ⟨f, rfl⟩ : ∃ g, f = g + 1 := ⟨f - 1, by omega⟩
    have hi : h = nh := by omega
    subst hi
    obtain ⟨x1, x2, x3, x4, x5, x6, x7, x8⟩ := hT
    have e25 : B.1 41 25 = Int32.ofNat h := by rw [hs.2.1 25 (by omega) (by decide) (by decide) (by decide) (by decide) (by decide)]; exact t5
    unfold f_X12_setDoes_L14
    rw [e25, if_pos (Int32.le_refl _), x1, if_pos i5, c5, x5, if_pos n01]
    exact ⟨B, rfl, hs⟩
  | succ k ih =>
    intro h f l B hi hf hs hT
    obtain ⟨f, rfl⟩ : ∃ g, f = g + 1 := ⟨f - 1, by omega⟩
    have hT' := hT
    obtain ⟨x1, x2, x3, x4, x5, x6, x7, x8⟩ := hT
    have e25 : B.1 41 25 = Int32.ofNat nh := by rw [hs.2.1 25 (by omega) (by decide) (by decide) (by decide) (by decide) (by decide)]; exact t5
    have b46 : B.1 46 = B0.1 46 := hs.1 46 (by decide) (by decide) (by decide)
    have b48 : B.1 48 = B0.1 48 := hs.1 48 (by decide) (by decide) (by decide)
    have b50 : B.1 50 = B0.1 50 := hs.1 50 (by decide) (by decide) (by decide)
    have hlt : ¬ Int32.ofNat nh ≤ Int32.ofNat h := fun q => by have := (io_le (by omega) (by omega)).mp q; omega
    unfold f_X12_setDoes_L14 f_X12_has canM
    rw [e25, if_neg hlt, r_isDone (w := 55) x1 hb, zbE, x5, x6, if_neg (show ¬ ((0 : Int32) = 1 ∨ (0 : Int32) = 1) from fun q => q.elim n01 n01), if_neg n00]
    simp only [zlE, io_sc]
    by_cases hbit : ((s >>> (Int32.ofNat h &&& 31)) &&& 1) = 1
    case neg =>
      rw [if_pos hbit, zbE, if_pos rfl, if_pos hbit]
      exact ih (h + 1) f l B (by omega) (by omega) hs ⟨x1, x2, x3, x4, x5, x6, fun i h1 h2 => x7 i (by omega) h2, x8.mono (by omega)⟩
    have hbn : ¬ ¬ ((s >>> (Int32.ofNat h &&& 31)) &&& 1) = 1 := fun q => q hbit
    rw [if_neg hbn, zbE, if_neg n10, if_neg hbn, x1, if_pos i3, c3]
    have wB : LawR B W := w2.of (hs.2.1 35 (by omega) (by decide) (by decide) (by decide) (by decide) (by decide)) (hs.1 43 (by decide) (by decide) (by decide)) (hs.1 44 (by decide) (by decide) (by decide))
    obtain ⟨B2, gb, sb⟩ := r_gripOf wB (w := 55) (h := h) (j := tb) (t := none) (by omega) hb (fun k hk => by cases hk) (by rw [b46, b48, b50]; exact gBd_row t11 x8 x1 hb (by omega) (fun k hk => by cases hk))
    have ge : gripM W (B.1 46) (B.1 48) (B.1 50) (B.1 55) h none tb = gripM W (B0.1 46) (B0.1 48) (B0.1 50) (B0.1 54) h none tb := by
      unfold gripM
      rw [b46, b48, b50, (x7 h (Nat.le_refl _) (by omega)).1, (x7 h (Nat.le_refl _) (by omega)).2, x3]
    have hg0 : 0 ≤ (gripM W (B.1 46) (B.1 48) (B.1 50) (B.1 55) h none tb).toInt := gripM_bd.1
    have tur := r_turns (w := 55) (by decide) x1 hb (h := h) (by omega) (side := B.1 46 (6 * tb + 3)) (less := 0) gb (sb.1 55 (by decide) (by decide)) (sb.1 48 (by decide) (by decide)) (sb.1 46 (by decide) (by decide))
    rw [m0_id hg0, if_pos rfl, tryR_eq x8 hb hg0] at tur
    have tur' : f_X12_turns 55 (Int32.ofNat h) (-1) (B.1 46 (6 * tb + 3)) 0 B = _ := tur
    rw [tur', zbE]
    have hs2 : sRun B0 (sR B2 55 (tryM loR (B.1 48) tb h (gripM W (B.1 46) (B.1 48) (B.1 50) (B.1 55) h none tb) (B.1 55))) := hs.tr (sRun.ofw (sameRw.sR sb (by decide) _))
    have hold : holdM (B.1 55) tb = (holdM (B0.1 54) tb - B0.1 54 (7 * tb + 1)) + l := by
      unfold holdM
      rw [x2, x3, x4, ring1]
    rw [ge] at tur hs2 ⊢
    have ht3 : 0 ≤ (B.1 48 (5 * h + 3)).toInt := by rw [b48]; exact (t11.2.2.2.2.2.2.1 h (by omega)).2.2.2.1.1
    rw [ge] at hg0
    by_cases hlt2 : gripM W (B0.1 46) (B0.1 48) (B0.1 50) (B0.1 54) h none tb < holdM (B.1 55) tb
    · have z := try_TrI (h := h) hb (by omega) (by omega) ht3 hg0 hT' hlt2
      rw [hold] at hlt2
      rw [if_pos hlt2]
      exact ih (h + 1) f _ _ (by omega) (by omega) hs2 (by rw [sR_at]; exact z)
    · have hopen : (tryM loR (B.1 48) tb h (gripM W (B0.1 46) (B0.1 48) (B0.1 50) (B0.1 54) h none tb) (B.1 55)) (7 * tb + 5) = 1 ∧ (tryM loR (B.1 48) tb h (gripM W (B0.1 46) (B0.1 48) (B0.1 50) (B0.1 54) h none tb) (B.1 55)) 64 = Int32.ofNat tb := by
        unfold tryM tireM
        rw [if_neg hlt2]
        refine ⟨?_, ?_⟩
        · rw [um_ne (by omega), um_ne (by omega), ru_at]
        · rw [um_ne (by omega), um_ne (by omega), ru_ne (by omega)]
          exact x1
      rw [hold] at hlt2
      rw [if_neg hlt2]
      generalize tryM loR (B.1 48) tb h (gripM W (B0.1 46) (B0.1 48) (B0.1 50) (B0.1 54) h none tb) (B.1 55) = R at hopen hs2 ⊢
      obtain ⟨f, rfl⟩ : ∃ g, f = g + 1 := ⟨f - 1, by omega⟩
      have u25 : (sR B2 55 R).1 41 25 = Int32.ofNat nh := by rw [hs2.2.1 25 (by omega) (by decide) (by decide) (by decide) (by decide) (by decide)]; exact t5
      have r64 : (sR B2 55 R).1 55 64 = Int32.ofNat tb := by rw [sR_at]; exact hopen.2
      have r5 : (sR B2 55 R).1 55 (7 * tb + 5) = 1 := by rw [sR_at]; exact hopen.1
      unfold f_X12_setDoes_L14
      rw [u25]
      have one : (if ia_in ((7 * ((sR B2 55 R).1 55 64)) + 5) 66 = true then if ¬ ((sR B2 55 R).1 55 ((7 * ((sR B2 55 R).1 55 64)) + 5).toNatClampNeg) = 1 then some ((0 : Int32), sR B2 55 R) else some (1, sR B2 55 R) else none) = some (1, sR B2 55 R) := by
        rw [r64, if_pos i5, c5, r5, if_neg (fun q => q rfl)]
      refine ⟨sR B2 55 R, ?_, hs2⟩
      by_cases hend : Int32.ofNat nh ≤ Int32.ofNat (h + 1)
      · rw [if_pos hend]
        exact one
      · rw [if_neg hend, r_isDone (w := 55) r64 hb, zbE, r5, if_pos (Or.inl rfl), if_pos n10]
        exact one
theorem r_setDoes {W : zLw} (H : InvD 0 M nj nh nt A B) (w2 : LawR B W) (hM : M < 900000) {tb : Nat} (b2 : tb < 4) (b4 : B.1 54 64 = Int32.ofNat tb) (b5 : B.1 54 (7 * tb + 5) = 0) (b6 : B.1 54 (7 * tb + 6) = 0) (s : Int32) :
    ∃ B', f_X12_setDoes s B = some (canM (fun h => gripM W (B.1 46) (B.1 48) (B.1 50) (B.1 54) h none tb) (holdM (B.1 54) tb - B.1 54 (7 * tb + 1)) s nh 0 (B.1 54 (7 * tb + 1)), B') ∧ sRun B B' := by
  unfold f_X12_setDoes
  rw [r_copyrr (by decide), zbE]
  have e : ∀ k, k < 66 → (sR B 55 (cpy (B.1 54) (B.1 55) 0 0 66)).1 55 k = B.1 54 k := fun k hk => by rw [sR_at]; exact cpy_0 hk
  have R2 := (H.row.cg (r' := A.1 18) (q' := (sR B 55 (cpy (B.1 54) (B.1 55) 0 0 66)).1 55) (fun _ _ => rfl) e)
  refine r_setL (M := M) H.told w2 b2 hM s nh 0 zN (B.1 54 (7 * tb + 1)) _ (by omega) (by have := H.told.2.2.2.2.2.2.2.2.2.2.2.1; unfold zN; omega) (sRun.ofw (sameRw.sR (sameR.rfl' B) (by decide) _)) ⟨?_, ?_, ?_, ?_, ?_, ?_, fun i _ hi => ⟨?_, ?_⟩, R2.2.tr R2.1⟩
  · rw [e _ (by omega)]; exact b4
  · exact e _ (by omega)
  · exact e _ (by omega)
  · exact e _ (by omega)
  · rw [e _ (by omega)]; exact b5
  · rw [e _ (by omega)]; exact b6
  · exact e _ (by omega)
  · exact e _ (by omega)
/-- both sides' crowds -/
theorem crowd2 (H : InvD 0 M nj nh nt A B) (hM : M < 900000) {tb : Nat} (b2 : tb < 4) (b3 : A.1 18 64 = Int32.ofNat tb) (b5 : A.1 18 (7 * tb + 5) = 0) (b6 : A.1 18 (7 * tb + 6) = 0) :
    ∃ g stuck rest A', f_X0_gather_17 A = some ((), A') ∧ InvD 0 M nj nh nt A' B ∧ Crw nh g stuck rest A' ∧ (∀ h, h < nh → bd (g h) 0 999) ∧ bd stuck 0 99 ∧ ∀ (B1 : zS), sRun B B1 → ∀ s, ∃ B2, f_X12_setDoes s B1 = some (canM g rest s nh 0 stuck, B2) ∧ sRun B B2 := by
  obtain ⟨t1, t2, t3, t4, t5, t6, t7, t8, t9, t10, t11⟩ := H.told
  obtain ⟨W, w1, w2⟩ := H.law
  obtain ⟨A', e1, e2, e3⟩ := c_gather w1 b3 b2 t2 t11.2.1
  have n6 := t11.2.1
  refine ⟨_, _, _, A', e1, H.obs (e2.obs H.longC) H.reflR, e3, fun h _ => gripM_bd, (H.row.2.2.1 tb b2).2.1, fun B1 s1 s => ?_⟩
  have b4 : B1.1 54 = B.1 54 := s1.1 54 (by decide) (by decide) (by decide)
  have H1 := H.obs H.refl (s1.obs H.longR)
  have w3 : LawR B1 W := w2.of (s1.2.1 35 (by omega) (by decide) (by decide) (by decide) (by decide) (by decide)) (s1.1 43 (by decide) (by decide) (by decide)) (s1.1 44 (by decide) (by decide) (by decide))
  obtain ⟨B2, f1, f2⟩ := r_setDoes H1 w3 hM b2 (by rw [b4, ← H.row.1.pl (by omega)]; exact b3) (by rw [b4, ← H.row.1.pl (by omega)]; exact b5) (by rw [b4, ← H.row.1.pl (by omega)]; exact b6) s
  refine ⟨B2, ?_, s1.tr f2⟩
  rw [f1, b4, s1.1 46 (by decide) (by decide) (by decide), s1.1 48 (by decide) (by decide) (by decide), s1.1 50 (by decide) (by decide) (by decide)]
  have eh : holdM (B.1 54) tb - B.1 54 (7 * tb + 1) = holdM (A.1 18) tb - A.1 18 (7 * tb + 1) := by rw [H.row.1.hold b2, H.row.1.pl (k := 7 * tb + 1) (by omega)]
  have es : B.1 54 (7 * tb + 1) = A.1 18 (7 * tb + 1) := (H.row.1.pl (by omega)).symm
  rw [eh, es]
  have cg : ∀ (g1 g2 : Nat → Int32) (r : Int32) k h l, (∀ i, i < h + k → g1 i = g2 i) → canM g1 r s k h l = canM g2 r s k h l := by
    intro g1 g2 r k
    induction k with
    | zero => intro h l _; rfl
    | succ k ih =>
      intro h l hg
      unfold canM
      rw [hg h (by omega), ih (h + 1) _ (fun i hi => hg i (by omega)), ih (h + 1) _ (fun i hi => hg i (by omega))]
  rw [cg _ _ _ nh 0 _ (fun i hi => (grip_eq (W := W) H.told H.row.1 (h := i) (j := tb) (t := none) (by omega) (tbn t11 H.row.2 b3 b2 (by omega)) (fun k hk => by cases hk)).symm)]
theorem op_opens (H : InvD 0 M nj nh nt A B) (hM : M < 900000) (v : Int32) : Sim M (f_X11_opens v A) (f_X12_opens v B) := by
  have H0 := H.thr 0
  unfold f_X11_opens f_X12_opens
  rw [zlE]
  generalize sV B 41 0 0 = B0 at H0 ⊢
  obtain ⟨t1, t2, t3, t4, t5, t6, t7, t8, t9, t10, t11⟩ := H0.told
  rcases shut2 H0 with ⟨tb, b1, b2, b3, b4, b5, b6, e4, e5, -⟩ | ⟨e4, e5, -⟩
  case inr =>
    rw [e4, e5, zbE, zbE, if_pos rfl, if_pos rfl]
    exact Sim.no H0 _
  rw [e4, e5, zbE, zbE, if_neg n10, if_neg n10, t2, t5]
  by_cases h0 : v < 0
  · rw [if_pos h0, if_pos h0]
    exact Sim.no H0 _
  rw [if_neg h0, if_neg h0]
  by_cases h1 : v < 1 <<< (Int32.ofNat nh &&& 31)
  · obtain ⟨g, stuck, rest, A', g1, g2, g3, g4, g5, g6⟩ := crowd2 H0 hM b2 b3 b5 b6
    obtain ⟨B2, f1, f2⟩ := g6 B0 (sRun.rfl' B0) v
    rw [if_pos h1, if_neg (fun q => Int32.not_le.mpr h1 q), g1, zbE, c_canOpen g3 t11.2.1, zbE, f1, zbE]
    have Hf := g2.obs g2.refl (f2.obs g2.longR)
    rcases canM_01 g rest v nh 0 stuck with h | h
    · rw [h, if_pos rfl, if_pos rfl]
      exact sim_fin Hf (by omega) rfl
    · rw [h, if_neg n10, if_neg n10]
      exact sim_fin Hf (by omega) rfl
  · rw [if_neg h1, if_pos (Int32.not_lt.mp h1)]
    exact Sim.no H0 _
theorem fact2 (v : Int32) (hv : v.toInt ≤ 40) : ∃ x, (∀ A : zS, f_X0_factorial v A = some (x, A)) ∧ ∀ B : zS, f_X12_orders v B = some (x, B) := by
  have L : ∀ (k i f : Nat) (p : Int32), i + k = 41 → k < f → ∃ x, (∀ A : zS, f_X0_factorial_L4 (fun q5 _ S4 => some (q5, S4)) v f p (Int32.ofNat i) A = some (x, A)) ∧ ∀ B : zS, f_X12_orders_L4 (fun q5 _ S4 => some (q5, S4)) v f p (Int32.ofNat i) B = some (x, B) := by
    intro k
    induction k with
    | zero =>
      intro i f p hi hf
      obtain ⟨f, rfl⟩ : ∃ g, f = g + 1 := ⟨f - 1, by omega⟩
      have q : v < Int32.ofNat i := by rw [Int32.lt_iff_toInt_lt, ti_nat (by omega)]; omega
      refine ⟨p, fun A => ?_, fun B => ?_⟩
      · unfold f_X0_factorial_L4; rw [if_pos q]
      · unfold f_X12_orders_L4; rw [if_pos q]
    | succ k ih =>
      intro i f p hi hf
      obtain ⟨f, rfl⟩ : ∃ g, f = g + 1 := ⟨f - 1, by omega⟩
      by_cases q : v < Int32.ofNat i
      · refine ⟨p, fun A => ?_, fun B => ?_⟩
        · unfold f_X0_factorial_L4; rw [if_pos q]
        · unfold f_X12_orders_L4; rw [if_pos q]
      · obtain ⟨x, x1, x2⟩ := ih (i + 1) f (p * Int32.ofNat i) (by omega) (by omega)
        refine ⟨x, fun A => ?_, fun B => ?_⟩
        · unfold f_X0_factorial_L4; rw [if_neg q, zlE, zlE, io_sc]; exact x1 A
        · unfold f_X12_orders_L4; rw [if_neg q, zlE, zlE, io_sc]; exact x2 B
  obtain ⟨x, x1, x2⟩ := L 39 2 zN 1 (by omega) (by unfold zN; omega)
  exact ⟨x, x1, x2⟩
def bcV (v0 : Int32) : Int32 :=
  (fun y1 : Int32 => (fun y2 : Int32 => (fun y3 : Int32 => (fun y4 : Int32 => (fun y5 : Int32 => y5 &&& 63) (y4 + ((y4.toUInt32 >>> ((16 : Int32).toUInt32 &&& Int32.toUInt32 31)).toInt32))) (y3 + ((y3.toUInt32 >>> ((8 : Int32).toUInt32 &&& Int32.toUInt32 31)).toInt32))) ((y2 + ((y2.toUInt32 >>> ((4 : Int32).toUInt32 &&& Int32.toUInt32 31)).toInt32)) &&& 252645135)) ((y1 &&& 858993459) + (((y1.toUInt32 >>> ((2 : Int32).toUInt32 &&& Int32.toUInt32 31)).toInt32) &&& 858993459))) (v0 - (((v0.toUInt32 >>> ((1 : Int32).toUInt32 &&& Int32.toUInt32 31)).toInt32) &&& 1431655765))
theorem bcV_eq (v : Int32) (S : zS) : f_J6_bitCount_0f7a4 v S = some (bcV v, S) := by
  unfold f_J6_bitCount_0f7a4 bcV
  simp only [zlE]
theorem bcV_lt : ∀ s : Fin 65, 0 ≤ (bcV (Int32.ofNat s.val)).toInt ∧ (bcV (Int32.ofNat s.val)).toInt ≤ 7 := by decide +kernel
theorem shl_nh (h : nh ≤ 6) : (1 : Int32) <<< (Int32.ofNat nh &&& 31) = Int32.ofNat (2 ^ nh) := by
  rcases (show nh = 0 ∨ nh = 1 ∨ nh = 2 ∨ nh = 3 ∨ nh = 4 ∨ nh = 5 ∨ nh = 6 by omega) with rfl | rfl | rfl | rfl | rfl | rfl | rfl <;> decide
theorem pow_nh (h : nh ≤ 6) : 2 ^ nh ≤ 64 := by
  rcases (show nh = 0 ∨ nh = 1 ∨ nh = 2 ∨ nh = 3 ∨ nh = 4 ∨ nh = 5 ∨ nh = 6 by omega) with rfl | rfl | rfl | rfl | rfl | rfl | rfl <;> decide
theorem share_L {g : Nat → Int32} {stuck rest hv : Int32} {A B0 : zS} (n6 : nh ≤ 6) (hC : Crw nh g stuck rest A) (h25 : B0.1 41 25 = Int32.ofNat nh) (hR : ∀ (B1 : zS), sRun B0 B1 → ∀ s, ∃ B2, f_X12_setDoes s B1 = some (canM g rest s nh 0 stuck, B2) ∧ sRun B0 B2) : ∀ (k s f : Nat) (sum : Int32) (B : zS), s + k = 2 ^ nh → k < f → sRun B0 B →
    ∃ r B', f_X0_ordersDecidedBy_L4 (fun q26 _ S25 => some (q26, S25)) hv f sum (Int32.ofNat s) A = some (r, A) ∧ f_X12_share_L26 (fun q38 _ S37 => some (q38, S37)) hv f sum (Int32.ofNat s) B = some (r, B') ∧ sRun B0 B' := by
  have p64 := pow_nh n6
  intro k
  induction k with
  | zero =>
    intro s f sum B hi hf hs
    obtain ⟨f, rfl⟩ : ∃ g, f = g + 1 := ⟨f - 1, by omega⟩
    have e25 : B.1 41 25 = Int32.ofNat nh := by rw [hs.2.1 25 (by omega) (by decide) (by decide) (by decide) (by decide) (by decide)]; exact h25
    have hi : s = 2 ^ nh := by omega
    unfold f_X0_ordersDecidedBy_L4 f_X12_share_L26
    rw [hC.1, e25, shl_nh n6, hi, if_pos (Int32.le_refl _), if_pos (Int32.le_refl _)]
    exact ⟨sum, B, rfl, rfl, hs⟩
  | succ k ih =>
    intro s f sum B hi hf hs
    obtain ⟨f, rfl⟩ : ∃ g, f = g + 1 := ⟨f - 1, by omega⟩
    have e25 : ∀ B', sRun B0 B' → B'.1 41 25 = Int32.ofNat nh := fun B' hs => by rw [hs.2.1 25 (by omega) (by decide) (by decide) (by decide) (by decide) (by decide)]; exact h25
    have hlt : ¬ Int32.ofNat (2 ^ nh) ≤ Int32.ofNat s := fun q => by have := (io_le (by omega) (by omega)).mp q; omega
    unfold f_X0_ordersDecidedBy_L4 f_X12_share_L26 f_X12_has
    rw [hC.1, e25 B hs, shl_nh n6, if_neg hlt, if_neg hlt]
    simp only [zlE, io_sc]
    have hbit : ((Int32.ofNat s >>> (hv &&& 31)) &&& 1) = 0 ∨ ((Int32.ofNat s >>> (hv &&& 31)) &&& 1) = 1 := and1 _
    have n01 : ¬ (0 : Int32) = 1 := by decide
    rcases hbit with hb | hb
    case inr =>
      rw [hb, if_pos n10, if_neg (fun q => q rfl), zbE, if_pos n10]
      exact ih (s + 1) f sum B (by omega) (by omega) hs
    rw [hb, if_neg n00, if_pos n01, zbE, if_neg n00, c_canOpen hC n6, zbE]
    obtain ⟨B2, f1, f2⟩ := hR B hs (Int32.ofNat s)
    rw [f1, zbE]
    rcases canM_01 g rest (Int32.ofNat s) nh 0 stuck with h | h
    case inr =>
      rw [h, if_pos n10, if_pos n10]
      exact ih (s + 1) f sum B2 (by omega) (by omega) f2
    rw [h, if_neg n00, if_neg n00, c_canOpen hC n6, zbE]
    obtain ⟨B3, f3, f4⟩ := hR B2 f2 (Int32.ofNat s ||| (1 <<< (hv &&& 31)))
    rw [f3, zbE]
    rcases canM_01 g rest (Int32.ofNat s ||| (1 <<< (hv &&& 31))) nh 0 stuck with h' | h'
    · rw [h', if_pos rfl, if_neg n00]
      exact ih (s + 1) f sum B3 (by omega) (by omega) f4
    rw [h', if_neg n10, if_pos n10, bcV_eq, zbE, bcV_eq, zbE]
    have bl := bcV_lt ⟨s, by omega⟩
    dsimp only at bl
    obtain ⟨x, x1, x2⟩ := fact2 (bcV (Int32.ofNat s)) (by omega)
    rw [x1, zbE, x2, zbE, hC.1, e25 B3 f4]
    have earg : Int32.ofNat nh - 1 - bcV (Int32.ofNat s) = Int32.ofNat nh - bcV (Int32.ofNat s) - 1 := by
      apply ti_inj
      have a1 : (Int32.ofNat nh - 1).toInt = (nh : Int) - 1 := by rw [ti_sub (by rw [ti_nat (by omega), ti_1]; omega), ti_nat (by omega), ti_1]
      have a2 : (Int32.ofNat nh - bcV (Int32.ofNat s)).toInt = (nh : Int) - (bcV (Int32.ofNat s)).toInt := by rw [ti_sub (by rw [ti_nat (by omega)]; omega), ti_nat (by omega)]
      have b1 : (Int32.ofNat nh - 1 - bcV (Int32.ofNat s)).toInt = (nh : Int) - 1 - (bcV (Int32.ofNat s)).toInt := by rw [ti_sub (x := Int32.ofNat nh - 1) (by rw [a1]; omega), a1]
      have b2 : (Int32.ofNat nh - bcV (Int32.ofNat s) - 1).toInt = (nh : Int) - (bcV (Int32.ofNat s)).toInt - 1 := by rw [ti_sub (x := Int32.ofNat nh - bcV (Int32.ofNat s)) (by rw [a2, ti_1]; omega), a2, ti_1]
      rw [b1, b2]
      omega
    rw [earg]
    have a2 : (Int32.ofNat nh - bcV (Int32.ofNat s)).toInt = (nh : Int) - (bcV (Int32.ofNat s)).toInt := by rw [ti_sub (by rw [ti_nat (by omega)]; omega), ti_nat (by omega)]
    obtain ⟨y, y1, y2⟩ := fact2 (Int32.ofNat nh - bcV (Int32.ofNat s) - 1) (by rw [ti_sub (x := Int32.ofNat nh - bcV (Int32.ofNat s)) (by rw [a2, ti_1]; omega), a2, ti_1]; omega)
    rw [y1, zbE, y2, zbE]
    exact ih (s + 1) f _ B3 (by omega) (by omega) f4
theorem op_share (H : InvD 0 M nj nh nt A B) (hM : M < 900000) (v : Int32) : Sim M (f_X11_share v A) (f_X12_share v B) := by
  have H0 := H.thr 0
  unfold f_X11_share f_X12_share
  rw [zlE]
  generalize sV B 41 0 0 = B0 at H0 ⊢
  obtain ⟨t1, t2, t3, t4, t5, t6, t7, t8, t9, t10, t11⟩ := H0.told
  have n6 := t11.2.1
  rcases isHand2 t2 t5 (by omega) v with ⟨h, hh, rfl, e2, e3⟩ | ⟨e2, e3⟩
  case inr =>
    rw [e2, e3, zbE, zbE, if_pos rfl, if_pos rfl]
    exact Sim.no H0 _
  rw [e2, e3, zbE, zbE, if_neg n10, if_neg n10]
  rcases shut2 H0 with ⟨tb, b1, b2, b3, b4, b5, b6, e4, e5, -⟩ | ⟨e4, e5, -⟩
  case inr =>
    rw [e4, e5, zbE, zbE, if_neg n00, if_neg n00]
    exact Sim.no H0 _
  obtain ⟨g, stuck, rest, A', g1, g2, g3, g4, g5, g6⟩ := crowd2 H0 hM b2 b3 b5 b6
  rw [e4, e5, zbE, zbE, if_pos n10, if_pos n10, g1, zbE]
  have p64 := pow_nh n6
  obtain ⟨r, B', z1, z2, z3⟩ := share_L (hv := Int32.ofNat h) n6 g3 t5 g6 (2 ^ nh) 0 zN 0 B0 (by omega) (by unfold zN; omega) (sRun.rfl' B0)
  have Hf := g2.obs g2.refl (z3.obs g2.longR)
  rw [show f_X0_ordersDecidedBy (Int32.ofNat h) A' = _ from z1, zbE]
  exact ⟨r, A', B', rfl, z2, Hf.sim⟩
end NB
