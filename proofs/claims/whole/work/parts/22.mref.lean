/-! Scenes: the reference (repeated rows written by wip/whole/gen21.py). -/
section MC
def looseR (tb h : Nat) (g : Int32) (r : Nat → Int32) : Nat → Int32 := um (um r (7 * tb + 1) (fun x => x - (if g / 10 < r (7 * tb + 1) then g / 10 else r (7 * tb + 1)))) (loR tb h) (fun x => x + (if g / 10 < r (7 * tb + 1) then g / 10 else r (7 * tb + 1)))
def tryR (hT : Nat → Int32) (tb h : Nat) (g : Int32) (r : Nat → Int32) : Nat → Int32 := if g < holdM r tb then tireM hT h (looseR tb h g r) else tireM hT h (ru r (7 * tb + 5) 1)
variable {w tb h j nj nh : Nat} {S : zS}
theorem r_holdOf (hj : j < 4) : f_X12_holdOf w (Int32.ofNat j) S = some (holdM (S.1 w) j, S) := by
  unfold holdM
  simp (disch := omega) only [f_X12_holdOf, zlE, zbE, sV_eq, sR_at, sR_sR, sR_ne, ru_at, ru_ne, um, m0, io_in, io_cl, eq_self, if_true, ite_true, ix_m7, ix_m6, ix_m5, ix_m2, ix_m4, ix_p1, ix_p2, ix_p3, ix_p4, ix_p5, ix_p6, ix_k28, ix_k40, ix_aa]
theorem r_isDone (hT : S.1 w 64 = Int32.ofNat tb) (hb : tb < 4) : f_X12_isDone w S = some (if S.1 w (7 * tb + 5) = 1 ∨ S.1 w (7 * tb + 6) = 1 then 1 else 0, S) := by
  simp (disch := omega) only [f_X12_isDone, hT, zlE, zbE, sV_eq, sR_at, sR_sR, sR_ne, ru_at, ru_ne, um, m0, io_in, io_cl, eq_self, if_true, ite_true, ix_m7, ix_m6, ix_m5, ix_m2, ix_m4, ix_p1, ix_p2, ix_p3, ix_p4, ix_p5, ix_p6, ix_k28, ix_k40, ix_aa]
  by_cases h1 : S.1 w (7 * tb + 5) = 1 <;> by_cases h2 : S.1 w (7 * tb + 6) = 1 <;> simp [h1, h2]
theorem r_stp {α : Type} {k N : Nat} {e : Int32} {F : Int32 → Int32} {K : zS → Option (α × zS)} (he : e = Int32.ofNat k) (hk : k < N) (hN : N ≤ 2147483648) : (if ia_in e N = true then (if ia_in e N = true then zl (sV S w e.toNatClampNeg (F (S.1 w e.toNatClampNeg))) K else none) else none) = K (sR S w (um (S.1 w) k F)) := by
  subst he
  rw [if_pos (io_in hk hN), if_pos (io_in hk hN), io_cl (by omega), sV_eq, zlE]
  rfl
theorem r_heats (hw : 54 ≤ w) (hT : S.1 w 64 = Int32.ofNat tb) (hb : tb < 4) (n : Int32) : f_X12_heats w n S = some ((), sR S w (warmM (S.1 46) tb n (S.1 w))) := by
  have hv : warm3 tb n (S.1 w) (7 * tb + 3) = S.1 w (7 * tb + 3) + n := by
    unfold warm3
    rw [um_ne (by omega), um_ne (by omega), um_at]
  unfold f_X12_heats
  rw [hT, zlE, zlE]
  refine (r_stp (S := S) (w := w) (k := 7 * tb + 3) (F := fun x => x + n) (by simp only [ix_m7, ix_p3]) (by omega) (by omega)).trans ?_
  refine (r_stp (k := 7 * tb + 2) (F := fun x => m0 (x - n / 10)) (by simp only [ix_m7, ix_p2]) (by omega) (by omega)).trans ?_
  refine (r_stp (k := 7 * tb + 1) (F := fun x => m0 (x - n / 5)) (by simp only [ix_m7, ix_p1]) (by omega) (by omega)).trans ?_
  simp only [sR_at, sR_sR]
  have h3 : um (um (um (S.1 w) (7 * tb + 3) (fun x => x + n)) (7 * tb + 2) (fun x => m0 (x - n / 10))) (7 * tb + 1) (fun x => m0 (x - n / 5)) = warm3 tb n (S.1 w) := rfl
  rw [h3]
  unfold warmM
  by_cases hc : S.1 w (7 * tb + 3) + n ≤ S.1 46 (6 * tb + 5)
  · rw [if_pos hc]
    simp (disch := omega) only [hv, hc, zlE, zbE, sV_eq, sR_at, sR_sR, sR_ne, ru_at, ru_ne, um, m0, io_in, io_cl, eq_self, if_true, ite_true, ix_m7, ix_m6, ix_m5, ix_m2, ix_m4, ix_p1, ix_p2, ix_p3, ix_p4, ix_p5, ix_p6, ix_k28, ix_k40, ix_aa]
  · rw [if_neg hc]
    simp (disch := omega) only [hv, hc, if_false, ite_false, zlE, zbE, sV_eq, sR_at, sR_sR, sR_ne, ru_at, ru_ne, um, m0, io_in, io_cl, eq_self, if_true, ite_true, ix_m7, ix_m6, ix_m5, ix_m2, ix_m4, ix_p1, ix_p2, ix_p3, ix_p4, ix_p5, ix_p6, ix_k28, ix_k40, ix_aa]
theorem r_tap (hw : 54 ≤ w) (hT : S.1 w 64 = Int32.ofNat tb) (hb : tb < 4) : f_X12_works w 0 S = some ((), sR S w (tapM tb (S.1 w))) := by
  unfold tapM f_X12_works
  simp only [zlE]
  rw [if_neg (by decide), hT]
  simp (disch := omega) only [zlE, zbE, sV_eq, sR_at, sR_sR, sR_ne, ru_at, ru_ne, um, m0, io_in, io_cl, eq_self, if_true, ite_true, ix_m7, ix_m6, ix_m5, ix_m2, ix_m4, ix_p1, ix_p2, ix_p3, ix_p4, ix_p5, ix_p6, ix_k28, ix_k40, ix_aa]
  rw [if_pos (by decide), if_pos (by decide), if_pos (by decide)]
theorem r_knock (hw : 54 ≤ w) (hT : S.1 w 64 = Int32.ofNat tb) (hb : tb < 4) : f_X12_works w 1 S = some ((), sR S w (knockM tb (S.1 w))) := by
  unfold knockM f_X12_works
  simp only [zlE]
  rw [if_pos (by decide), if_neg (by decide), hT]
  simp (disch := omega) only [zlE, zbE, sV_eq, sR_at, sR_sR, sR_ne, ru_at, ru_ne, um, m0, io_in, io_cl, eq_self, if_true, ite_true, ix_m7, ix_m6, ix_m5, ix_m2, ix_m4, ix_p1, ix_p2, ix_p3, ix_p4, ix_p5, ix_p6, ix_k28, ix_k40, ix_aa]
  rw [if_pos (by decide), if_pos (by decide)]
theorem r_hole (hw : 54 ≤ w) (hT : S.1 w 64 = Int32.ofNat tb) (hb : tb < 4) : f_X12_works w 2 S = some ((), sR S w (holeM tb (S.1 w))) := by
  unfold holeM f_X12_works
  simp only [zlE]
  rw [if_pos (by decide), if_pos (by decide), if_neg (by decide), hT]
  simp (disch := omega) only [zlE, zbE, sV_eq, sR_at, sR_sR, sR_ne, ru_at, ru_ne, um, m0, io_in, io_cl, eq_self, if_true, ite_true, ix_m7, ix_m6, ix_m5, ix_m2, ix_m4, ix_p1, ix_p2, ix_p3, ix_p4, ix_p5, ix_p6, ix_k28, ix_k40, ix_aa]
  rw [if_pos (by decide)]
theorem r_chill (hw : 54 ≤ w) (hT : S.1 w 64 = Int32.ofNat tb) (hb : tb < 4) : f_X12_works w 3 S = some ((), sR S w (chillM tb (S.1 w))) := by
  unfold chillM f_X12_works
  simp only [zlE]
  rw [if_pos (by decide), if_pos (by decide), if_pos (by decide), if_neg (by decide), hT]
  simp (disch := omega) only [zlE, zbE, sV_eq, sR_at, sR_sR, sR_ne, ru_at, ru_ne, um, m0, io_in, io_cl, eq_self, if_true, ite_true, ix_m7, ix_m6, ix_m5, ix_m2, ix_m4, ix_p1, ix_p2, ix_p3, ix_p4, ix_p5, ix_p6, ix_k28, ix_k40, ix_aa]
theorem r_dries (hw : 54 ≤ w) (hh : h < 6) : f_X12_dries w (Int32.ofNat h) S = some ((), sR S w (dryM h (S.1 w))) := by
  unfold dryM
  simp (disch := omega) only [f_X12_dries, zlE, zbE, sV_eq, sR_at, sR_sR, sR_ne, ru_at, ru_ne, um, m0, io_in, io_cl, eq_self, if_true, ite_true, ix_m7, ix_m6, ix_m5, ix_m2, ix_m4, ix_p1, ix_p2, ix_p3, ix_p4, ix_p5, ix_p6, ix_k28, ix_k40, ix_aa]
theorem r_waits_L2 (hw : 54 ≤ w) {ex : Int32 → zS → Option (Unit × zS)} {n : Int32} (hn : S.1 41 24 = Int32.ofNat nj) (h4 : nj ≤ 4) : ∀ (m i f : Nat), i + m = nj → m < f → f_X12_waits_L2 w ex n f (Int32.ofNat i) (sR S w (restJ n i (S.1 w))) = ex (Int32.ofNat nj) (sR S w (restJ n nj (S.1 w))) := by
  intro m
  induction m with
  | zero =>
    intro i f hi hf
    obtain ⟨f, rfl⟩ : ∃ g, f = g + 1 := ⟨f - 1, by omega⟩
    have hi : i = nj := by omega
    subst hi
    unfold f_X12_waits_L2
    rw [sR_ne _ _ (by omega), hn, if_pos (Int32.le_refl _)]
  | succ m ih =>
    intro i f hi hf
    obtain ⟨f, rfl⟩ : ∃ g, f = g + 1 := ⟨f - 1, by omega⟩
    unfold f_X12_waits_L2
    rw [sR_ne _ _ (by omega), hn, if_neg (fun q => by rw [io_le (by omega) (by omega)] at q; omega)]
    rw [← ih (i + 1) f (by omega) (by omega)]
    simp (disch := omega) only [restJ, zlE, zbE, sV_eq, sR_at, sR_sR, sR_ne, ru_at, ru_ne, um, m0, io_in, io_cl, eq_self, if_true, ite_true, ix_m7, ix_m6, ix_m5, ix_m2, ix_m4, ix_p1, ix_p2, ix_p3, ix_p4, ix_p5, ix_p6, ix_k28, ix_k40, ix_aa, io_sc]
theorem r_waits_L42 (hw : 54 ≤ w) {ex : Int32 → zS → Option (Unit × zS)} {n : Int32} {r : Nat → Int32} (hn : S.1 41 25 = Int32.ofNat nh) (h4 : nh ≤ 6) : ∀ (m i f : Nat), i + m = nh → m < f → f_X12_waits_L42 w ex n f (Int32.ofNat i) (sR S w (restH (S.1 48) n i r)) = ex (Int32.ofNat nh) (sR S w (restH (S.1 48) n nh r)) := by
  intro m
  induction m with
  | zero =>
    intro i f hi hf
    obtain ⟨f, rfl⟩ : ∃ g, f = g + 1 := ⟨f - 1, by omega⟩
    have hi : i = nh := by omega
    subst hi
    unfold f_X12_waits_L42
    rw [sR_ne _ _ (by omega), hn, if_pos (Int32.le_refl _)]
  | succ m ih =>
    intro i f hi hf
    obtain ⟨f, rfl⟩ : ∃ g, f = g + 1 := ⟨f - 1, by omega⟩
    unfold f_X12_waits_L42
    rw [sR_ne _ _ (by omega), hn, if_neg (fun q => by rw [io_le (by omega) (by omega)] at q; omega)]
    rw [← ih (i + 1) f (by omega) (by omega)]
    simp (disch := omega) only [restH, zlE, zbE, sV_eq, sR_at, sR_sR, sR_ne, ru_at, ru_ne, um, m0, io_in, io_cl, eq_self, if_true, ite_true, ix_m7, ix_m6, ix_m5, ix_m2, ix_m4, ix_p1, ix_p2, ix_p3, ix_p4, ix_p5, ix_p6, ix_k28, ix_k40, ix_aa, io_sc]
theorem r_waits (hw : 54 ≤ w) (hj : S.1 41 24 = Int32.ofNat nj) (h4 : nj ≤ 4) (hh : S.1 41 25 = Int32.ofNat nh) (h6 : nh ≤ 6) (n : Int32) : f_X12_waits w n S = some ((), sR S w (restM (S.1 48) nj nh n (S.1 w))) := by
  have e1 := r_waits_L2 (S := S) hw (ex := fun (q7 : Int32) (S6 : zS) =>
    f_X12_waits_L42 w (fun (q19 : Int32) (S18 : zS) =>
    zl (sV S18 w 65 ((S18.1 w 65) + n)) fun S20 =>
    some ((), S20)) n zN 0 S6) (n := n) hj h4 nj 0 zN (by omega) (by unfold zN; omega)
  have e2 := r_waits_L42 (S := S) hw (ex := fun (q19 : Int32) (S18 : zS) =>
    zl (sV S18 w 65 ((S18.1 w 65) + n)) fun S20 =>
    some ((), S20)) (n := n) (r := restJ n nj (S.1 w)) hh h6 nh 0 zN (by omega) (by unfold zN; omega)
  simp only [restJ, restH, sR_self] at e1 e2
  unfold f_X12_waits restM
  refine e1.trans (e2.trans ?_)
  simp (disch := omega) only [zlE, zbE, sV_eq, sR_at, sR_sR, sR_ne, ru_at, ru_ne, um, m0, io_in, io_cl, eq_self, if_true, ite_true, ix_m7, ix_m6, ix_m5, ix_m2, ix_m4, ix_p1, ix_p2, ix_p3, ix_p4, ix_p5, ix_p6, ix_k28, ix_k40, ix_aa]
theorem r_turns (hw : 54 ≤ w) (hT : S.1 w 64 = Int32.ofNat tb) (hb : tb < 4) (hh : h < 6) {t g side less : Int32} {S1 : zS} (hg : f_X12_gripOf w (Int32.ofNat h) t (Int32.ofNat tb) S = some (g, S1)) (e1 : S1.1 w = S.1 w) (e2 : S1.1 48 = S.1 48) (e3 : S1.1 46 = S.1 46) :
    f_X12_turns w (Int32.ofNat h) t side less S = some ((), sR S1 w (if side = S.1 46 (6 * tb + 3) then tryR (S.1 48) tb h (m0 (g - less)) (S.1 w) else wrongM (S.1 48) tb h (S.1 w))) := by
  have e1' : ∀ k, S1.1 w k = S.1 w k := fun k => by rw [e1]
  unfold f_X12_turns
  simp only [zlE, hT]
  rw [hg, zbE]
  by_cases hs : side = S.1 46 (6 * tb + 3)
  · rw [if_pos hs]
    unfold tryR
    by_cases hq : m0 (g - less) < holdM (S.1 w) tb
    · rw [if_pos hq]
      unfold looseR tireM loR
      rw [r_holdOf hb]
      unfold m0 at hq ⊢
      simp (maxSteps := 4000000) (disch := omega) only [hs, hq, zlE, zbE, sV_eq, sR_at, sR_sR, sR_ne, ru_at, ru_ne, um, m0, io_in, io_cl, eq_self, if_true, ite_true, ix_m7, ix_m6, ix_m5, ix_m2, ix_m4, ix_p1, ix_p2, ix_p3, ix_p4, ix_p5, ix_p6, ix_k28, ix_k40, ix_aa, e1, e2, e3]
    · rw [if_neg hq]
      unfold tireM
      rw [r_holdOf hb]
      unfold m0 at hq ⊢
      simp (maxSteps := 4000000) (disch := omega) only [hs, hq, if_false, ite_false, zlE, zbE, sV_eq, sR_at, sR_sR, sR_ne, ru_at, ru_ne, um, m0, io_in, io_cl, eq_self, if_true, ite_true, ix_m7, ix_m6, ix_m5, ix_m2, ix_m4, ix_p1, ix_p2, ix_p3, ix_p4, ix_p5, ix_p6, ix_k28, ix_k40, ix_aa, e1, e2, e3]
  · rw [if_neg hs]
    unfold wrongM tireM
    simp (maxSteps := 4000000) (disch := omega) only [hs, if_false, ite_false, zlE, zbE, sV_eq, sR_at, sR_sR, sR_ne, ru_at, ru_ne, um, m0, io_in, io_cl, eq_self, if_true, ite_true, ix_m7, ix_m6, ix_m5, ix_m2, ix_m4, ix_p1, ix_p2, ix_p3, ix_p4, ix_p5, ix_p6, ix_k28, ix_k40, ix_aa, e1, e2, e3]
end MC
