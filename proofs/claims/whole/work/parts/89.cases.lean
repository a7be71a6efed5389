/-! the law's cases. -/
section NG
variable {L : Nat} {xs : Nat → Int32} {fm : Bool} {M d i nL : Nat} {hp : ia_H} {A B : zS} {ex : Nat → List Value → ia_H → Option (List Value × ia_H)} {Q : Option Value → ia_H → Prop} {st : List Value} {e : Option (Int32 × Int32)}
/-- the locals that the case of jar leaves -/
def lwE (e : Option (Int32 × Int32)) : List (Nat × Value) := match e with
  | none => []
  | some p => [(6, .int p.1), (5, .int p.2)]
def lwLv (e : Option (Int32 × Int32)) (i : Nat) : List (Nat × Value) := (4, .int (Int32.ofNat i)) :: (lwE e ++ [(3, .ref 63), (2, .ref 41), (1, .ref 0), (0, .ref 2000000)])
theorem lw_g0 {e : Option (Int32 × Int32)} {i : Nat} : ia_get (lwLv e i) 0 = some (.ref 2000000) := by cases e <;> rfl
theorem lw_g1 {e : Option (Int32 × Int32)} {i : Nat} : ia_get (lwLv e i) 1 = some (.ref 0) := by cases e <;> rfl
theorem lw_g2 {e : Option (Int32 × Int32)} {i : Nat} : ia_get (lwLv e i) 2 = some (.ref 41) := by cases e <;> rfl
theorem lw_g3 {e : Option (Int32 × Int32)} {i : Nat} : ia_get (lwLv e i) 3 = some (.ref 63) := by cases e <;> rfl
theorem lw_g4 {e : Option (Int32 × Int32)} {i : Nat} : ia_get (lwLv e i) 4 = some (.int (Int32.ofNat i)) := by cases e <;> rfl
theorem lw_s4 {e : Option (Int32 × Int32)} {i j : Nat} : ia_set1 (lwLv e i) 4 (.int (Int32.ofNat j)) = lwLv e j := by cases e <;> rfl
theorem lw_ok0 {e : Option (Int32 × Int32)} {i : Nat} : ia_oks 64 (lwLv e i) [] = true := by cases e <;> rfl
theorem lw_ok1 {e : Option (Int32 × Int32)} {i : Nat} {r : Int32} : ia_oks 64 (lwLv e i) [.int r] = true := by cases e <;> rfl
theorem hc_scr : ia_hc (ia_P0 L xs fm) 2000000 = .inl (0, L, .inl xs) := by
  show ia_hc0 L xs 2000000 = _
  unfold ia_hc0
  rw [if_pos rfl]
theorem z_scr {pc j : Nat} {w : Int} (h0 : decode cL_law pc = .ok (.aload_n 0, 1)) (h1 : decode cL_law (pc + 1) = .ok (.iload 4, 2)) (h2 : decode cL_law (pc + 1 + 2) = .ok (.iconst w, 1)) (h3 : decode cL_law (pc + 1 + 2 + 1) = .ok (.iadd, 1)) (h4 : decode cL_law (pc + 1 + 2 + 1 + 1) = .ok (.iaload, 1)) (hw : Int32.ofInt w = Int32.ofNat j) (hi : i + j < L) (hL : L < 1000000) (hn : hp.2.1 ≤ 1000000)
    (k : zW (ia_P0 L xs fm) ex d 13 false cL_law nL (some .boolean) (pc + 1 + 2 + 1 + 1 + 1) (lwLv e i) (.int (xs (i + j)) :: st) hp Q) : zW (ia_P0 L xs fm) ex d 13 false cL_law nL (some .boolean) pc (lwLv e i) st hp Q := by
  refine z_aload_n h0 lw_g0 ?_
  refine z_iload h1 lw_g4 ?_
  refine z_iconst h2 hw ?_
  refine z_iadd h3 ?_
  rw [ix_aa]
  refine z_ialoadC (N := L) (f := xs) h4 (by omega) hn hc_scr (io_in hi (by omega)) ?_
  rw [io_cl (by omega)]
  exact k
def nzV (x : Int32) : Int32 := if x = 0 then 0 else 1
theorem nzV_01 (x : Int32) : nzV x = 0 ∨ nzV x = 1 := by
  unfold nzV
  split
  · exact Or.inl rfl
  · exact Or.inr rfl
theorem z_nz {pc : Nat} {x : Int32} (h0 : decode cL_law pc = .ok (.ifCond .eq 7, 3)) (h1 : decode cL_law (pc + 3) = .ok (.iconst 1, 1)) (h2 : decode cL_law (pc + 3 + 1) = .ok (.goto 4, 3)) (h3 : decode cL_law (pc + 7) = .ok (.iconst 0, 1))
    (k : zW (ia_P0 L xs fm) ex d 13 false cL_law nL (some .boolean) (pc + 7 + 1) (lwLv e i) (.int (nzV x) :: st) hp Q) : zW (ia_P0 L xs fm) ex d 13 false cL_law nL (some .boolean) pc (lwLv e i) (.int x :: st) hp Q := by
  by_cases c : x = 0
  · refine z_if_eq_t (tgt := pc + 7) h0 (by omega) c ?_
    refine z_iconst (v := 0) h3 (by decide) ?_
    rw [show nzV x = 0 from if_pos c] at k
    exact k
  · refine z_if_eq_f (tgt := pc + 7) h0 (by omega) c ?_
    refine z_iconst (v := 1) h1 (by decide) ?_
    refine z_goto (tgt := pc + 7 + 1) h2 (by omega) ?_
    rw [show nzV x = 1 from if_neg c] at k
    exact k
def evV (a b : Int32) : Int64 := (a.toInt64 <<< ((32 : Int32).toInt64 &&& 63)) ||| (b.toInt64 &&& 4294967295)
theorem lc_feed (H : Both A B hp) (I : Inv M A B) (hM : M < 900000) (hn : hp.2.1 < 999998) (hi : i + 5 < L) (hL : L < 1000000) (hx : ∀ pc st hp, pc ≠ 390 → ex pc st hp = none) (hQ : ∀ h2 A2 B2, Both A2 B2 h2 → Inv (M + 1000) A2 B2 → (h2.2.1 ≤ hp.2.1 + 1 ∧ h2.2.2.1 ≤ hp.2.2.1 + 1 ∧ h2.2.2.2 ≤ hp.2.2.2 + 202) → zW (ia_P0 L xs fm) ex (d + 150) 13 false cL_law nL (some .boolean) 1654 (lwLv e i) [] h2 Q) : zW (ia_P0 L xs fm) ex (d + 150) 13 false cL_law nL (some .boolean) 228 (lwLv e i) [] hp Q := by
  obtain ⟨r, pr⟩ := pr_feed (L := L) (xs := xs) (fm := fm) (d := d) H I hM (by omega) (xs (i + 1)) (xs (i + 2)) (xs (i + 3)) (xs (i + 4)) (xs (i + 5))
  refine z_aload_n dL_law_228 lw_g1 ?_
  refine z_scr (j := 1) dL_law_229 dL_law_230 dL_law_232 dL_law_233 dL_law_234 (by decide) (by omega) hL (by omega) ?_
  refine z_scr (j := 2) dL_law_235 dL_law_236 dL_law_238 dL_law_239 dL_law_240 (by decide) (by omega) hL (by omega) ?_
  refine z_scr (j := 3) dL_law_241 dL_law_242 dL_law_244 dL_law_245 dL_law_246 (by decide) (by omega) hL (by omega) ?_
  refine z_scr (j := 4) dL_law_247 dL_law_248 dL_law_250 dL_law_251 dL_law_252 (by decide) (by omega) hL (by omega) ?_
  refine z_scr (j := 5) dL_law_253 dL_law_254 dL_law_256 dL_law_257 dL_law_258 (by decide) (by omega) hL (by omega) ?_
  refine z_callV dL_law_259 tM_13_19 mt_11001 (Nat.le_of_ble_eq_true rfl) rfl rfl (z_recv H.1 dc_0 rfl) rfl (ia_oks_le H.2.2.2.2 lw_ok0) (Nat.le_of_ble_eq_true rfl) pr ?_ (hx _ _ _ (by decide))
  rintro v hp1 ⟨rfl, ⟨b1, b2, b3, b4⟩, ⟨A1, B1, H1⟩, pr2⟩
  refine z_aload_n dL_law_262 lw_g2 ?_
  refine z_scr (j := 1) dL_law_263 dL_law_264 dL_law_266 dL_law_267 dL_law_268 (by decide) (by omega) hL (by omega) ?_
  refine z_scr (j := 2) dL_law_269 dL_law_270 dL_law_272 dL_law_273 dL_law_274 (by decide) (by omega) hL (by omega) ?_
  refine z_scr (j := 3) dL_law_275 dL_law_276 dL_law_278 dL_law_279 dL_law_280 (by decide) (by omega) hL (by omega) ?_
  refine z_scr (j := 4) dL_law_281 dL_law_282 dL_law_284 dL_law_285 dL_law_286 (by decide) (by omega) hL (by omega) ?_
  refine z_scr (j := 5) dL_law_287 dL_law_288 dL_law_290 dL_law_291 dL_law_292 (by decide) (by omega) hL (by omega) ?_
  refine z_callV dL_law_293 tM_13_23 mt_12002 (Nat.le_of_ble_eq_true rfl) rfl rfl (z_recv H1.2.1 dr_41 rfl) rfl (ia_oks_le H1.2.2.2.2 lw_ok1) (Nat.le_of_ble_eq_true rfl) pr2 ?_ (hx _ _ _ (by decide))
  rintro v2 hp2 ⟨rfl, e2, A2, B2, H2, I2⟩
  refine z_icmp_eq_t (tgt := 1654) dL_law_296 (by decide) rfl ?_
  exact hQ hp2 A2 B2 H2 I2 (by rw [e2]; exact ⟨b2, b3, b4⟩)
theorem lc_end (H : Both A B hp) (I : Inv M A B) (hM : M < 900000) (hn : hp.2.1 < 999998) (hi : i + 5 < L) (hL : L < 1000000) (hx : ∀ pc st hp, pc ≠ 390 → ex pc st hp = none) (hQ : ∀ h2 A2 B2, Both A2 B2 h2 → Inv (M + 1000) A2 B2 → (h2.2.1 ≤ hp.2.1 + 1 ∧ h2.2.2.1 ≤ hp.2.2.1 + 1 ∧ h2.2.2.2 ≤ hp.2.2.2 + 202) → zW (ia_P0 L xs fm) ex (d + 150) 13 false cL_law nL (some .boolean) 1654 (lwLv e i) [] h2 Q) : zW (ia_P0 L xs fm) ex (d + 150) 13 false cL_law nL (some .boolean) 301 (lwLv e i) [] hp Q := by
  obtain ⟨r, pr⟩ := pr_end (L := L) (xs := xs) (fm := fm) (d := d) H I hM (by omega) (xs (i + 1))
  refine z_aload_n dL_law_301 lw_g1 ?_
  refine z_scr (j := 1) dL_law_302 dL_law_303 dL_law_305 dL_law_306 dL_law_307 (by decide) (by omega) hL (by omega) ?_
  refine z_callV dL_law_308 tM_13_24 mt_11002 (Nat.le_of_ble_eq_true rfl) rfl rfl (z_recv H.1 dc_0 rfl) rfl (ia_oks_le H.2.2.2.2 lw_ok0) (Nat.le_of_ble_eq_true rfl) pr ?_ (hx _ _ _ (by decide))
  rintro v hp1 ⟨rfl, ⟨b1, b2, b3, b4⟩, ⟨A1, B1, H1⟩, pr2⟩
  refine z_aload_n dL_law_311 lw_g2 ?_
  refine z_scr (j := 1) dL_law_312 dL_law_313 dL_law_315 dL_law_316 dL_law_317 (by decide) (by omega) hL (by omega) ?_
  refine z_callV dL_law_318 tM_13_28 mt_12005 (Nat.le_of_ble_eq_true rfl) rfl rfl (z_recv H1.2.1 dr_41 rfl) rfl (ia_oks_le H1.2.2.2.2 lw_ok1) (Nat.le_of_ble_eq_true rfl) pr2 ?_ (hx _ _ _ (by decide))
  rintro v2 hp2 ⟨rfl, e2, A2, B2, H2, I2⟩
  refine z_icmp_eq_t (tgt := 1654) dL_law_321 (by decide) rfl ?_
  exact hQ hp2 A2 B2 H2 I2 (by rw [e2]; exact ⟨b2, b3, b4⟩)
theorem lc_fault (H : Both A B hp) (I : Inv M A B) (hM : M < 900000) (hn : hp.2.1 < 999998) (hi : i + 5 < L) (hL : L < 1000000) (hx : ∀ pc st hp, pc ≠ 390 → ex pc st hp = none) (hQ : ∀ h2 A2 B2, Both A2 B2 h2 → Inv (M + 1000) A2 B2 → (h2.2.1 ≤ hp.2.1 + 1 ∧ h2.2.2.1 ≤ hp.2.2.1 + 1 ∧ h2.2.2.2 ≤ hp.2.2.2 + 202) → zW (ia_P0 L xs fm) ex (d + 150) 13 false cL_law nL (some .boolean) 1654 (lwLv e i) [] h2 Q) : zW (ia_P0 L xs fm) ex (d + 150) 13 false cL_law nL (some .boolean) 326 (lwLv e i) [] hp Q := by
  obtain ⟨r, pr⟩ := pr_fault (L := L) (xs := xs) (fm := fm) (d := d) H I hM (by omega) (xs (i + 1))
  refine z_aload_n dL_law_326 lw_g1 ?_
  refine z_scr (j := 1) dL_law_327 dL_law_328 dL_law_330 dL_law_331 dL_law_332 (by decide) (by omega) hL (by omega) ?_
  refine z_callV dL_law_333 tM_13_29 mt_11003 (Nat.le_of_ble_eq_true rfl) rfl rfl (z_recv H.1 dc_0 rfl) rfl (ia_oks_le H.2.2.2.2 lw_ok0) (Nat.le_of_ble_eq_true rfl) pr ?_ (hx _ _ _ (by decide))
  rintro v hp1 ⟨rfl, ⟨b1, b2, b3, b4⟩, ⟨A1, B1, H1⟩, pr2⟩
  refine z_aload_n dL_law_336 lw_g2 ?_
  refine z_scr (j := 1) dL_law_337 dL_law_338 dL_law_340 dL_law_341 dL_law_342 (by decide) (by omega) hL (by omega) ?_
  refine z_callV dL_law_343 tM_13_33 mt_12006 (Nat.le_of_ble_eq_true rfl) rfl rfl (z_recv H1.2.1 dr_41 rfl) rfl (ia_oks_le H1.2.2.2.2 lw_ok1) (Nat.le_of_ble_eq_true rfl) pr2 ?_ (hx _ _ _ (by decide))
  rintro v2 hp2 ⟨rfl, e2, A2, B2, H2, I2⟩
  refine z_icmp_eq_t (tgt := 1654) dL_law_346 (by decide) rfl ?_
  exact hQ hp2 A2 B2 H2 I2 (by rw [e2]; exact ⟨b2, b3, b4⟩)
theorem lc_text (H : Both A B hp) (I : Inv M A B) (hM : M < 900000) (hn : hp.2.1 < 999998) (hi : i + 5 < L) (hL : L < 1000000) (hx : ∀ pc st hp, pc ≠ 390 → ex pc st hp = none) (hQ : ∀ h2 A2 B2, Both A2 B2 h2 → Inv (M + 1000) A2 B2 → (h2.2.1 ≤ hp.2.1 + 1 ∧ h2.2.2.1 ≤ hp.2.2.1 + 1 ∧ h2.2.2.2 ≤ hp.2.2.2 + 202) → zW (ia_P0 L xs fm) ex (d + 150) 13 false cL_law nL (some .boolean) 1654 (lwLv e i) [] h2 Q) : zW (ia_P0 L xs fm) ex (d + 150) 13 false cL_law nL (some .boolean) 351 (lwLv e i) [] hp Q := by
  obtain ⟨r, pr⟩ := pr_text (L := L) (xs := xs) (fm := fm) (d := d) H I (by omega) (xs (i + 1))
  refine z_aload_n dL_law_351 lw_g1 ?_
  refine z_scr (j := 1) dL_law_352 dL_law_353 dL_law_355 dL_law_356 dL_law_357 (by decide) (by omega) hL (by omega) ?_
  refine z_callV dL_law_358 tM_13_34 mt_11004 (Nat.le_of_ble_eq_true rfl) rfl rfl (z_recv H.1 dc_0 rfl) rfl (ia_oks_le H.2.2.2.2 lw_ok0) (Nat.le_of_ble_eq_true rfl) pr ?_ (hx _ _ _ (by decide))
  rintro v hp1 ⟨rfl, ⟨b1, b2, b3, b4⟩, ⟨A1, B1, H1⟩, pr2⟩
  refine z_aload_n dL_law_361 lw_g2 ?_
  refine z_scr (j := 1) dL_law_362 dL_law_363 dL_law_365 dL_law_366 dL_law_367 (by decide) (by omega) hL (by omega) ?_
  refine z_callV dL_law_368 tM_13_37 mt_12038 (Nat.le_of_ble_eq_true rfl) rfl rfl (z_recv H1.2.1 dr_41 rfl) rfl (ia_oks_le H1.2.2.2.2 lw_ok1) (Nat.le_of_ble_eq_true rfl) pr2 ?_ (hx _ _ _ (by decide))
  rintro v2 hp2 ⟨rfl, e2, A2, B2, H2, I2⟩
  refine z_icmp_eq_t (tgt := 1654) dL_law_371 (by decide) rfl ?_
  exact hQ hp2 A2 B2 H2 I2 (by rw [e2]; exact ⟨b2, b3, b4⟩)
theorem lc_hand (H : Both A B hp) (I : Inv M A B) (hM : M < 900000) (hn : hp.2.1 < 999998) (hi : i + 5 < L) (hL : L < 1000000) (hx : ∀ pc st hp, pc ≠ 390 → ex pc st hp = none) (hQ : ∀ h2 A2 B2, Both A2 B2 h2 → Inv (M + 1000) A2 B2 → (h2.2.1 ≤ hp.2.1 + 1 ∧ h2.2.2.1 ≤ hp.2.2.1 + 1 ∧ h2.2.2.2 ≤ hp.2.2.2 + 202) → zW (ia_P0 L xs fm) ex (d + 150) 13 false cL_law nL (some .boolean) 1654 (lwLv e i) [] h2 Q) : zW (ia_P0 L xs fm) ex (d + 150) 13 false cL_law nL (some .boolean) 444 (lwLv e i) [] hp Q := by
  obtain ⟨r, pr⟩ := pr_hand (L := L) (xs := xs) (fm := fm) (d := d) H I hM (by omega) (xs (i + 1)) (xs (i + 2))
  refine z_aload_n dL_law_444 lw_g1 ?_
  refine z_scr (j := 1) dL_law_445 dL_law_446 dL_law_448 dL_law_449 dL_law_450 (by decide) (by omega) hL (by omega) ?_
  refine z_scr (j := 2) dL_law_451 dL_law_452 dL_law_454 dL_law_455 dL_law_456 (by decide) (by omega) hL (by omega) ?_
  refine z_callV dL_law_457 tM_13_48 mt_11008 (Nat.le_of_ble_eq_true rfl) rfl rfl (z_recv H.1 dc_0 rfl) rfl (ia_oks_le H.2.2.2.2 lw_ok0) (Nat.le_of_ble_eq_true rfl) pr ?_ (hx _ _ _ (by decide))
  rintro v hp1 ⟨rfl, ⟨b1, b2, b3, b4⟩, ⟨A1, B1, H1⟩, pr2⟩
  refine z_aload_n dL_law_460 lw_g2 ?_
  refine z_scr (j := 1) dL_law_461 dL_law_462 dL_law_464 dL_law_465 dL_law_466 (by decide) (by omega) hL (by omega) ?_
  refine z_scr (j := 2) dL_law_467 dL_law_468 dL_law_470 dL_law_471 dL_law_472 (by decide) (by omega) hL (by omega) ?_
  refine z_callV dL_law_473 tM_13_51 mt_12042 (Nat.le_of_ble_eq_true rfl) rfl rfl (z_recv H1.2.1 dr_41 rfl) rfl (ia_oks_le H1.2.2.2.2 lw_ok1) (Nat.le_of_ble_eq_true rfl) pr2 ?_ (hx _ _ _ (by decide))
  rintro v2 hp2 ⟨rfl, e2, A2, B2, H2, I2⟩
  refine z_icmp_eq_t (tgt := 1654) dL_law_476 (by decide) rfl ?_
  exact hQ hp2 A2 B2 H2 I2 (by rw [e2]; exact ⟨b2, b3, b4⟩)
theorem lc_tool (H : Both A B hp) (I : Inv M A B) (hM : M < 900000) (hn : hp.2.1 < 999998) (hi : i + 5 < L) (hL : L < 1000000) (hx : ∀ pc st hp, pc ≠ 390 → ex pc st hp = none) (hQ : ∀ h2 A2 B2, Both A2 B2 h2 → Inv (M + 1000) A2 B2 → (h2.2.1 ≤ hp.2.1 + 1 ∧ h2.2.2.1 ≤ hp.2.2.1 + 1 ∧ h2.2.2.2 ≤ hp.2.2.2 + 202) → zW (ia_P0 L xs fm) ex (d + 150) 13 false cL_law nL (some .boolean) 1654 (lwLv e i) [] h2 Q) : zW (ia_P0 L xs fm) ex (d + 150) 13 false cL_law nL (some .boolean) 481 (lwLv e i) [] hp Q := by
  obtain ⟨r, pr⟩ := pr_tool (L := L) (xs := xs) (fm := fm) (d := d) H I hM (by omega) (xs (i + 1)) (xs (i + 2))
  refine z_aload_n dL_law_481 lw_g1 ?_
  refine z_scr (j := 1) dL_law_482 dL_law_483 dL_law_485 dL_law_486 dL_law_487 (by decide) (by omega) hL (by omega) ?_
  refine z_scr (j := 2) dL_law_488 dL_law_489 dL_law_491 dL_law_492 dL_law_493 (by decide) (by omega) hL (by omega) ?_
  refine z_callV dL_law_494 tM_13_52 mt_11010 (Nat.le_of_ble_eq_true rfl) rfl rfl (z_recv H.1 dc_0 rfl) rfl (ia_oks_le H.2.2.2.2 lw_ok0) (Nat.le_of_ble_eq_true rfl) pr ?_ (hx _ _ _ (by decide))
  rintro v hp1 ⟨rfl, ⟨b1, b2, b3, b4⟩, ⟨A1, B1, H1⟩, pr2⟩
  refine z_aload_n dL_law_497 lw_g2 ?_
  refine z_scr (j := 1) dL_law_498 dL_law_499 dL_law_501 dL_law_502 dL_law_503 (by decide) (by omega) hL (by omega) ?_
  refine z_scr (j := 2) dL_law_504 dL_law_505 dL_law_507 dL_law_508 dL_law_509 (by decide) (by omega) hL (by omega) ?_
  refine z_callV dL_law_510 tM_13_55 mt_12044 (Nat.le_of_ble_eq_true rfl) rfl rfl (z_recv H1.2.1 dr_41 rfl) rfl (ia_oks_le H1.2.2.2.2 lw_ok1) (Nat.le_of_ble_eq_true rfl) pr2 ?_ (hx _ _ _ (by decide))
  rintro v2 hp2 ⟨rfl, e2, A2, B2, H2, I2⟩
  refine z_icmp_eq_t (tgt := 1654) dL_law_513 (by decide) rfl ?_
  exact hQ hp2 A2 B2 H2 I2 (by rw [e2]; exact ⟨b2, b3, b4⟩)
theorem lc_law (H : Both A B hp) (I : Inv M A B) (hM : M < 900000) (hn : hp.2.1 < 999998) (hi : i + 5 < L) (hL : L < 1000000) (hx : ∀ pc st hp, pc ≠ 390 → ex pc st hp = none) (hQ : ∀ h2 A2 B2, Both A2 B2 h2 → Inv (M + 1000) A2 B2 → (h2.2.1 ≤ hp.2.1 + 1 ∧ h2.2.2.1 ≤ hp.2.2.1 + 1 ∧ h2.2.2.2 ≤ hp.2.2.2 + 202) → zW (ia_P0 L xs fm) ex (d + 150) 13 false cL_law nL (some .boolean) 1654 (lwLv e i) [] h2 Q) : zW (ia_P0 L xs fm) ex (d + 150) 13 false cL_law nL (some .boolean) 518 (lwLv e i) [] hp Q := by
  obtain ⟨r, pr⟩ := pr_law (L := L) (xs := xs) (fm := fm) (d := d) H I hM (by omega) (xs (i + 1))
  refine z_aload_n dL_law_518 lw_g1 ?_
  refine z_scr (j := 1) dL_law_519 dL_law_520 dL_law_522 dL_law_523 dL_law_524 (by decide) (by omega) hL (by omega) ?_
  refine z_callV dL_law_525 tM_13_56 mt_11012 (Nat.le_of_ble_eq_true rfl) rfl rfl (z_recv H.1 dc_0 rfl) rfl (ia_oks_le H.2.2.2.2 lw_ok0) (Nat.le_of_ble_eq_true rfl) pr ?_ (hx _ _ _ (by decide))
  rintro v hp1 ⟨rfl, ⟨b1, b2, b3, b4⟩, ⟨A1, B1, H1⟩, pr2⟩
  refine z_aload_n dL_law_528 lw_g2 ?_
  refine z_scr (j := 1) dL_law_529 dL_law_530 dL_law_532 dL_law_533 dL_law_534 (by decide) (by omega) hL (by omega) ?_
  refine z_callV dL_law_535 tM_13_59 mt_12045 (Nat.le_of_ble_eq_true rfl) rfl rfl (z_recv H1.2.1 dr_41 rfl) rfl (ia_oks_le H1.2.2.2.2 lw_ok1) (Nat.le_of_ble_eq_true rfl) pr2 ?_ (hx _ _ _ (by decide))
  rintro v2 hp2 ⟨rfl, e2, A2, B2, H2, I2⟩
  refine z_icmp_eq_t (tgt := 1654) dL_law_538 (by decide) rfl ?_
  exact hQ hp2 A2 B2 H2 I2 (by rw [e2]; exact ⟨b2, b3, b4⟩)
theorem lc_step (H : Both A B hp) (I : Inv M A B) (hM : M < 900000) (hn : hp.2.1 < 999998) (hi : i + 5 < L) (hL : L < 1000000) (hx : ∀ pc st hp, pc ≠ 390 → ex pc st hp = none) (hQ : ∀ h2 A2 B2, Both A2 B2 h2 → Inv (M + 1000) A2 B2 → (h2.2.1 ≤ hp.2.1 + 1 ∧ h2.2.2.1 ≤ hp.2.2.1 + 1 ∧ h2.2.2.2 ≤ hp.2.2.2 + 202) → zW (ia_P0 L xs fm) ex (d + 150) 13 false cL_law nL (some .boolean) 1654 (lwLv e i) [] h2 Q) : zW (ia_P0 L xs fm) ex (d + 150) 13 false cL_law nL (some .boolean) 543 (lwLv e i) [] hp Q := by
  obtain ⟨r, pr⟩ := pr_step (L := L) (xs := xs) (fm := fm) (d := d) H I hM (by omega) (xs (i + 1)) (xs (i + 2))
  refine z_aload_n dL_law_543 lw_g1 ?_
  refine z_scr (j := 1) dL_law_544 dL_law_545 dL_law_547 dL_law_548 dL_law_549 (by decide) (by omega) hL (by omega) ?_
  refine z_scr (j := 2) dL_law_550 dL_law_551 dL_law_553 dL_law_554 dL_law_555 (by decide) (by omega) hL (by omega) ?_
  refine z_callV dL_law_556 tM_13_60 mt_11013 (Nat.le_of_ble_eq_true rfl) rfl rfl (z_recv H.1 dc_0 rfl) rfl (ia_oks_le H.2.2.2.2 lw_ok0) (Nat.le_of_ble_eq_true rfl) pr ?_ (hx _ _ _ (by decide))
  rintro v hp1 ⟨rfl, ⟨b1, b2, b3, b4⟩, ⟨A1, B1, H1⟩, pr2⟩
  refine z_aload_n dL_law_559 lw_g2 ?_
  refine z_scr (j := 1) dL_law_560 dL_law_561 dL_law_563 dL_law_564 dL_law_565 (by decide) (by omega) hL (by omega) ?_
  refine z_scr (j := 2) dL_law_566 dL_law_567 dL_law_569 dL_law_570 dL_law_571 (by decide) (by omega) hL (by omega) ?_
  refine z_callV dL_law_572 tM_13_63 mt_12046 (Nat.le_of_ble_eq_true rfl) rfl rfl (z_recv H1.2.1 dr_41 rfl) rfl (ia_oks_le H1.2.2.2.2 lw_ok1) (Nat.le_of_ble_eq_true rfl) pr2 ?_ (hx _ _ _ (by decide))
  rintro v2 hp2 ⟨rfl, e2, A2, B2, H2, I2⟩
  refine z_icmp_eq_t (tgt := 1654) dL_law_575 (by decide) rfl ?_
  exact hQ hp2 A2 B2 H2 I2 (by rw [e2]; exact ⟨b2, b3, b4⟩)
theorem lc_grip (H : Both A B hp) (I : Inv M A B) (hM : M < 900000) (hn : hp.2.1 < 999998) (hi : i + 5 < L) (hL : L < 1000000) (hx : ∀ pc st hp, pc ≠ 390 → ex pc st hp = none) (hQ : ∀ h2 A2 B2, Both A2 B2 h2 → Inv (M + 1000) A2 B2 → (h2.2.1 ≤ hp.2.1 + 1 ∧ h2.2.2.1 ≤ hp.2.2.1 + 1 ∧ h2.2.2.2 ≤ hp.2.2.2 + 202) → zW (ia_P0 L xs fm) ex (d + 150) 13 false cL_law nL (some .boolean) 1654 (lwLv e i) [] h2 Q) : zW (ia_P0 L xs fm) ex (d + 150) 13 false cL_law nL (some .boolean) 580 (lwLv e i) [] hp Q := by
  obtain ⟨r, pr⟩ := pr_grip (L := L) (xs := xs) (fm := fm) (d := d) H I hM (by omega) (xs (i + 1)) (xs (i + 2)) (xs (i + 3))
  refine z_aload_n dL_law_580 lw_g1 ?_
  refine z_scr (j := 1) dL_law_581 dL_law_582 dL_law_584 dL_law_585 dL_law_586 (by decide) (by omega) hL (by omega) ?_
  refine z_scr (j := 2) dL_law_587 dL_law_588 dL_law_590 dL_law_591 dL_law_592 (by decide) (by omega) hL (by omega) ?_
  refine z_scr (j := 3) dL_law_593 dL_law_594 dL_law_596 dL_law_597 dL_law_598 (by decide) (by omega) hL (by omega) ?_
  refine z_callV dL_law_599 tM_13_64 mt_11015 (Nat.le_of_ble_eq_true rfl) rfl rfl (z_recv H.1 dc_0 rfl) rfl (ia_oks_le H.2.2.2.2 lw_ok0) (Nat.le_of_ble_eq_true rfl) pr ?_ (hx _ _ _ (by decide))
  rintro v hp1 ⟨rfl, ⟨b1, b2, b3, b4⟩, ⟨A1, B1, H1⟩, pr2⟩
  refine z_aload_n dL_law_602 lw_g2 ?_
  refine z_scr (j := 1) dL_law_603 dL_law_604 dL_law_606 dL_law_607 dL_law_608 (by decide) (by omega) hL (by omega) ?_
  refine z_scr (j := 2) dL_law_609 dL_law_610 dL_law_612 dL_law_613 dL_law_614 (by decide) (by omega) hL (by omega) ?_
  refine z_scr (j := 3) dL_law_615 dL_law_616 dL_law_618 dL_law_619 dL_law_620 (by decide) (by omega) hL (by omega) ?_
  refine z_callV dL_law_621 tM_13_68 mt_12047 (Nat.le_of_ble_eq_true rfl) rfl rfl (z_recv H1.2.1 dr_41 rfl) rfl (ia_oks_le H1.2.2.2.2 lw_ok1) (Nat.le_of_ble_eq_true rfl) pr2 ?_ (hx _ _ _ (by decide))
  rintro v2 hp2 ⟨rfl, e2, A2, B2, H2, I2⟩
  refine z_icmp_eq_t (tgt := 1654) dL_law_624 (by decide) rfl ?_
  exact hQ hp2 A2 B2 H2 I2 (by rw [e2]; exact ⟨b2, b3, b4⟩)
theorem lc_lacks (H : Both A B hp) (I : Inv M A B) (hM : M < 900000) (hn : hp.2.1 < 999998) (hi : i + 5 < L) (hL : L < 1000000) (hx : ∀ pc st hp, pc ≠ 390 → ex pc st hp = none) (hQ : ∀ h2 A2 B2, Both A2 B2 h2 → Inv (M + 1000) A2 B2 → (h2.2.1 ≤ hp.2.1 + 1 ∧ h2.2.2.1 ≤ hp.2.2.1 + 1 ∧ h2.2.2.2 ≤ hp.2.2.2 + 202) → zW (ia_P0 L xs fm) ex (d + 150) 13 false cL_law nL (some .boolean) 1654 (lwLv e i) [] h2 Q) : zW (ia_P0 L xs fm) ex (d + 150) 13 false cL_law nL (some .boolean) 629 (lwLv e i) [] hp Q := by
  obtain ⟨r, pr⟩ := pr_lacks (L := L) (xs := xs) (fm := fm) (d := d) H I hM (by omega) (xs (i + 1)) (xs (i + 2)) (xs (i + 3))
  refine z_aload_n dL_law_629 lw_g1 ?_
  refine z_scr (j := 1) dL_law_630 dL_law_631 dL_law_633 dL_law_634 dL_law_635 (by decide) (by omega) hL (by omega) ?_
  refine z_scr (j := 2) dL_law_636 dL_law_637 dL_law_639 dL_law_640 dL_law_641 (by decide) (by omega) hL (by omega) ?_
  refine z_scr (j := 3) dL_law_642 dL_law_643 dL_law_645 dL_law_646 dL_law_647 (by decide) (by omega) hL (by omega) ?_
  refine z_callV dL_law_648 tM_13_69 mt_11017 (Nat.le_of_ble_eq_true rfl) rfl rfl (z_recv H.1 dc_0 rfl) rfl (ia_oks_le H.2.2.2.2 lw_ok0) (Nat.le_of_ble_eq_true rfl) pr ?_ (hx _ _ _ (by decide))
  rintro v hp1 ⟨rfl, ⟨b1, b2, b3, b4⟩, ⟨A1, B1, H1⟩, pr2⟩
  refine z_aload_n dL_law_651 lw_g2 ?_
  refine z_scr (j := 1) dL_law_652 dL_law_653 dL_law_655 dL_law_656 dL_law_657 (by decide) (by omega) hL (by omega) ?_
  refine z_scr (j := 2) dL_law_658 dL_law_659 dL_law_661 dL_law_662 dL_law_663 (by decide) (by omega) hL (by omega) ?_
  refine z_scr (j := 3) dL_law_664 dL_law_665 dL_law_667 dL_law_668 dL_law_669 (by decide) (by omega) hL (by omega) ?_
  refine z_callV dL_law_670 tM_13_72 mt_12051 (Nat.le_of_ble_eq_true rfl) rfl rfl (z_recv H1.2.1 dr_41 rfl) rfl (ia_oks_le H1.2.2.2.2 lw_ok1) (Nat.le_of_ble_eq_true rfl) pr2 ?_ (hx _ _ _ (by decide))
  rintro v2 hp2 ⟨rfl, e2, A2, B2, H2, I2⟩
  refine z_icmp_eq_t (tgt := 1654) dL_law_673 (by decide) rfl ?_
  exact hQ hp2 A2 B2 H2 I2 (by rw [e2]; exact ⟨b2, b3, b4⟩)
theorem lc_turn (H : Both A B hp) (I : Inv M A B) (hM : M < 900000) (hn : hp.2.1 < 999998) (hi : i + 5 < L) (hL : L < 1000000) (hx : ∀ pc st hp, pc ≠ 390 → ex pc st hp = none) (hQ : ∀ h2 A2 B2, Both A2 B2 h2 → Inv (M + 1000) A2 B2 → (h2.2.1 ≤ hp.2.1 + 1 ∧ h2.2.2.1 ≤ hp.2.2.1 + 1 ∧ h2.2.2.2 ≤ hp.2.2.2 + 202) → zW (ia_P0 L xs fm) ex (d + 150) 13 false cL_law nL (some .boolean) 1654 (lwLv e i) [] h2 Q) : zW (ia_P0 L xs fm) ex (d + 150) 13 false cL_law nL (some .boolean) 678 (lwLv e i) [] hp Q := by
  obtain ⟨r, pr⟩ := pr_turn (L := L) (xs := xs) (fm := fm) (d := d) H I hM (by omega) (xs (i + 1)) (xs (i + 2)) (xs (i + 3))
  refine z_aload_n dL_law_678 lw_g1 ?_
  refine z_scr (j := 1) dL_law_679 dL_law_680 dL_law_682 dL_law_683 dL_law_684 (by decide) (by omega) hL (by omega) ?_
  refine z_scr (j := 2) dL_law_685 dL_law_686 dL_law_688 dL_law_689 dL_law_690 (by decide) (by omega) hL (by omega) ?_
  refine z_scr (j := 3) dL_law_691 dL_law_692 dL_law_694 dL_law_695 dL_law_696 (by decide) (by omega) hL (by omega) ?_
  refine z_callV dL_law_697 tM_13_73 mt_11018 (Nat.le_of_ble_eq_true rfl) rfl rfl (z_recv H.1 dc_0 rfl) rfl (ia_oks_le H.2.2.2.2 lw_ok0) (Nat.le_of_ble_eq_true rfl) pr ?_ (hx _ _ _ (by decide))
  rintro v hp1 ⟨rfl, ⟨b1, b2, b3, b4⟩, ⟨A1, B1, H1⟩, pr2⟩
  refine z_aload_n dL_law_700 lw_g2 ?_
  refine z_scr (j := 1) dL_law_701 dL_law_702 dL_law_704 dL_law_705 dL_law_706 (by decide) (by omega) hL (by omega) ?_
  refine z_scr (j := 2) dL_law_707 dL_law_708 dL_law_710 dL_law_711 dL_law_712 (by decide) (by omega) hL (by omega) ?_
  refine z_scr (j := 3) dL_law_713 dL_law_714 dL_law_716 dL_law_717 dL_law_718 (by decide) (by omega) hL (by omega) ?_
  refine z_callV dL_law_719 tM_13_76 mt_12052 (Nat.le_of_ble_eq_true rfl) rfl rfl (z_recv H1.2.1 dr_41 rfl) rfl (ia_oks_le H1.2.2.2.2 lw_ok1) (Nat.le_of_ble_eq_true rfl) pr2 ?_ (hx _ _ _ (by decide))
  rintro v2 hp2 ⟨rfl, e2, A2, B2, H2, I2⟩
  refine z_icmp_eq_t (tgt := 1654) dL_law_722 (by decide) rfl ?_
  exact hQ hp2 A2 B2 H2 I2 (by rw [e2]; exact ⟨b2, b3, b4⟩)
theorem lc_heat (H : Both A B hp) (I : Inv M A B) (hM : M < 900000) (hn : hp.2.1 < 999998) (hi : i + 5 < L) (hL : L < 1000000) (hx : ∀ pc st hp, pc ≠ 390 → ex pc st hp = none) (hQ : ∀ h2 A2 B2, Both A2 B2 h2 → Inv (M + 1000) A2 B2 → (h2.2.1 ≤ hp.2.1 + 1 ∧ h2.2.2.1 ≤ hp.2.2.1 + 1 ∧ h2.2.2.2 ≤ hp.2.2.2 + 202) → zW (ia_P0 L xs fm) ex (d + 150) 13 false cL_law nL (some .boolean) 1654 (lwLv e i) [] h2 Q) : zW (ia_P0 L xs fm) ex (d + 150) 13 false cL_law nL (some .boolean) 727 (lwLv e i) [] hp Q := by
  obtain ⟨r, pr⟩ := pr_heat (L := L) (xs := xs) (fm := fm) (d := d) H I hM (by omega) (xs (i + 1))
  refine z_aload_n dL_law_727 lw_g1 ?_
  refine z_scr (j := 1) dL_law_728 dL_law_729 dL_law_731 dL_law_732 dL_law_733 (by decide) (by omega) hL (by omega) ?_
  refine z_callV dL_law_734 tM_13_77 mt_11021 (Nat.le_of_ble_eq_true rfl) rfl rfl (z_recv H.1 dc_0 rfl) rfl (ia_oks_le H.2.2.2.2 lw_ok0) (Nat.le_of_ble_eq_true rfl) pr ?_ (hx _ _ _ (by decide))
  rintro v hp1 ⟨rfl, ⟨b1, b2, b3, b4⟩, ⟨A1, B1, H1⟩, pr2⟩
  refine z_aload_n dL_law_737 lw_g2 ?_
  refine z_scr (j := 1) dL_law_738 dL_law_739 dL_law_741 dL_law_742 dL_law_743 (by decide) (by omega) hL (by omega) ?_
  refine z_callV dL_law_744 tM_13_80 mt_12057 (Nat.le_of_ble_eq_true rfl) rfl rfl (z_recv H1.2.1 dr_41 rfl) rfl (ia_oks_le H1.2.2.2.2 lw_ok1) (Nat.le_of_ble_eq_true rfl) pr2 ?_ (hx _ _ _ (by decide))
  rintro v2 hp2 ⟨rfl, e2, A2, B2, H2, I2⟩
  refine z_icmp_eq_t (tgt := 1654) dL_law_747 (by decide) rfl ?_
  exact hQ hp2 A2 B2 H2 I2 (by rw [e2]; exact ⟨b2, b3, b4⟩)
theorem lc_work (H : Both A B hp) (I : Inv M A B) (hM : M < 900000) (hn : hp.2.1 < 999998) (hi : i + 5 < L) (hL : L < 1000000) (hx : ∀ pc st hp, pc ≠ 390 → ex pc st hp = none) (hQ : ∀ h2 A2 B2, Both A2 B2 h2 → Inv (M + 1000) A2 B2 → (h2.2.1 ≤ hp.2.1 + 1 ∧ h2.2.2.1 ≤ hp.2.2.1 + 1 ∧ h2.2.2.2 ≤ hp.2.2.2 + 202) → zW (ia_P0 L xs fm) ex (d + 150) 13 false cL_law nL (some .boolean) 1654 (lwLv e i) [] h2 Q) : zW (ia_P0 L xs fm) ex (d + 150) 13 false cL_law nL (some .boolean) 752 (lwLv e i) [] hp Q := by
  obtain ⟨r, pr⟩ := pr_work (L := L) (xs := xs) (fm := fm) (d := d) H I hM (by omega) (xs (i + 1))
  refine z_aload_n dL_law_752 lw_g1 ?_
  refine z_scr (j := 1) dL_law_753 dL_law_754 dL_law_756 dL_law_757 dL_law_758 (by decide) (by omega) hL (by omega) ?_
  refine z_callV dL_law_759 tM_13_81 mt_11022 (Nat.le_of_ble_eq_true rfl) rfl rfl (z_recv H.1 dc_0 rfl) rfl (ia_oks_le H.2.2.2.2 lw_ok0) (Nat.le_of_ble_eq_true rfl) pr ?_ (hx _ _ _ (by decide))
  rintro v hp1 ⟨rfl, ⟨b1, b2, b3, b4⟩, ⟨A1, B1, H1⟩, pr2⟩
  refine z_aload_n dL_law_762 lw_g2 ?_
  refine z_scr (j := 1) dL_law_763 dL_law_764 dL_law_766 dL_law_767 dL_law_768 (by decide) (by omega) hL (by omega) ?_
  refine z_callV dL_law_769 tM_13_84 mt_12060 (Nat.le_of_ble_eq_true rfl) rfl rfl (z_recv H1.2.1 dr_41 rfl) rfl (ia_oks_le H1.2.2.2.2 lw_ok1) (Nat.le_of_ble_eq_true rfl) pr2 ?_ (hx _ _ _ (by decide))
  rintro v2 hp2 ⟨rfl, e2, A2, B2, H2, I2⟩
  refine z_icmp_eq_t (tgt := 1654) dL_law_772 (by decide) rfl ?_
  exact hQ hp2 A2 B2 H2 I2 (by rw [e2]; exact ⟨b2, b3, b4⟩)
theorem lc_dry (H : Both A B hp) (I : Inv M A B) (hM : M < 900000) (hn : hp.2.1 < 999998) (hi : i + 5 < L) (hL : L < 1000000) (hx : ∀ pc st hp, pc ≠ 390 → ex pc st hp = none) (hQ : ∀ h2 A2 B2, Both A2 B2 h2 → Inv (M + 1000) A2 B2 → (h2.2.1 ≤ hp.2.1 + 1 ∧ h2.2.2.1 ≤ hp.2.2.1 + 1 ∧ h2.2.2.2 ≤ hp.2.2.2 + 202) → zW (ia_P0 L xs fm) ex (d + 150) 13 false cL_law nL (some .boolean) 1654 (lwLv e i) [] h2 Q) : zW (ia_P0 L xs fm) ex (d + 150) 13 false cL_law nL (some .boolean) 777 (lwLv e i) [] hp Q := by
  obtain ⟨r, pr⟩ := pr_dry (L := L) (xs := xs) (fm := fm) (d := d) H I hM (by omega) (xs (i + 1))
  refine z_aload_n dL_law_777 lw_g1 ?_
  refine z_scr (j := 1) dL_law_778 dL_law_779 dL_law_781 dL_law_782 dL_law_783 (by decide) (by omega) hL (by omega) ?_
  refine z_callV dL_law_784 tM_13_85 mt_11023 (Nat.le_of_ble_eq_true rfl) rfl rfl (z_recv H.1 dc_0 rfl) rfl (ia_oks_le H.2.2.2.2 lw_ok0) (Nat.le_of_ble_eq_true rfl) pr ?_ (hx _ _ _ (by decide))
  rintro v hp1 ⟨rfl, ⟨b1, b2, b3, b4⟩, ⟨A1, B1, H1⟩, pr2⟩
  refine z_aload_n dL_law_787 lw_g2 ?_
  refine z_scr (j := 1) dL_law_788 dL_law_789 dL_law_791 dL_law_792 dL_law_793 (by decide) (by omega) hL (by omega) ?_
  refine z_callV dL_law_794 tM_13_88 mt_12062 (Nat.le_of_ble_eq_true rfl) rfl rfl (z_recv H1.2.1 dr_41 rfl) rfl (ia_oks_le H1.2.2.2.2 lw_ok1) (Nat.le_of_ble_eq_true rfl) pr2 ?_ (hx _ _ _ (by decide))
  rintro v2 hp2 ⟨rfl, e2, A2, B2, H2, I2⟩
  refine z_icmp_eq_t (tgt := 1654) dL_law_797 (by decide) rfl ?_
  exact hQ hp2 A2 B2 H2 I2 (by rw [e2]; exact ⟨b2, b3, b4⟩)
theorem lc_pause (H : Both A B hp) (I : Inv M A B) (hM : M < 900000) (hn : hp.2.1 < 999998) (hi : i + 5 < L) (hL : L < 1000000) (hx : ∀ pc st hp, pc ≠ 390 → ex pc st hp = none) (hQ : ∀ h2 A2 B2, Both A2 B2 h2 → Inv (M + 1000) A2 B2 → (h2.2.1 ≤ hp.2.1 + 1 ∧ h2.2.2.1 ≤ hp.2.2.1 + 1 ∧ h2.2.2.2 ≤ hp.2.2.2 + 202) → zW (ia_P0 L xs fm) ex (d + 150) 13 false cL_law nL (some .boolean) 1654 (lwLv e i) [] h2 Q) : zW (ia_P0 L xs fm) ex (d + 150) 13 false cL_law nL (some .boolean) 802 (lwLv e i) [] hp Q := by
  obtain ⟨r, pr⟩ := pr_pause (L := L) (xs := xs) (fm := fm) (d := d) H I hM (by omega) (xs (i + 1))
  refine z_aload_n dL_law_802 lw_g1 ?_
  refine z_scr (j := 1) dL_law_803 dL_law_804 dL_law_806 dL_law_807 dL_law_808 (by decide) (by omega) hL (by omega) ?_
  refine z_callV dL_law_809 tM_13_89 mt_11024 (Nat.le_of_ble_eq_true rfl) rfl rfl (z_recv H.1 dc_0 rfl) rfl (ia_oks_le H.2.2.2.2 lw_ok0) (Nat.le_of_ble_eq_true rfl) pr ?_ (hx _ _ _ (by decide))
  rintro v hp1 ⟨rfl, ⟨b1, b2, b3, b4⟩, ⟨A1, B1, H1⟩, pr2⟩
  refine z_aload_n dL_law_812 lw_g2 ?_
  refine z_scr (j := 1) dL_law_813 dL_law_814 dL_law_816 dL_law_817 dL_law_818 (by decide) (by omega) hL (by omega) ?_
  refine z_callV dL_law_819 tM_13_92 mt_12064 (Nat.le_of_ble_eq_true rfl) rfl rfl (z_recv H1.2.1 dr_41 rfl) rfl (ia_oks_le H1.2.2.2.2 lw_ok1) (Nat.le_of_ble_eq_true rfl) pr2 ?_ (hx _ _ _ (by decide))
  rintro v2 hp2 ⟨rfl, e2, A2, B2, H2, I2⟩
  refine z_icmp_eq_t (tgt := 1654) dL_law_822 (by decide) rfl ?_
  exact hQ hp2 A2 B2 H2 I2 (by rw [e2]; exact ⟨b2, b3, b4⟩)
theorem lc_shut (H : Both A B hp) (I : Inv M A B) (hM : M < 900000) (hn : hp.2.1 < 999998) (hi : i + 5 < L) (hL : L < 1000000) (hx : ∀ pc st hp, pc ≠ 390 → ex pc st hp = none) (hQ : ∀ h2 A2 B2, Both A2 B2 h2 → Inv (M + 1000) A2 B2 → (h2.2.1 ≤ hp.2.1 + 1 ∧ h2.2.2.1 ≤ hp.2.2.1 + 1 ∧ h2.2.2.2 ≤ hp.2.2.2 + 202) → zW (ia_P0 L xs fm) ex (d + 150) 13 false cL_law nL (some .boolean) 1654 (lwLv e i) [] h2 Q) : zW (ia_P0 L xs fm) ex (d + 150) 13 false cL_law nL (some .boolean) 827 (lwLv e i) [] hp Q := by
  obtain ⟨r, pr⟩ := pr_shut (L := L) (xs := xs) (fm := fm) (d := d) H I hM (by omega) (xs (i + 1))
  refine z_aload_n dL_law_827 lw_g1 ?_
  refine z_scr (j := 1) dL_law_828 dL_law_829 dL_law_831 dL_law_832 dL_law_833 (by decide) (by omega) hL (by omega) ?_
  refine z_callV dL_law_834 tM_13_93 mt_11025 (Nat.le_of_ble_eq_true rfl) rfl rfl (z_recv H.1 dc_0 rfl) rfl (ia_oks_le H.2.2.2.2 lw_ok0) (Nat.le_of_ble_eq_true rfl) pr ?_ (hx _ _ _ (by decide))
  rintro v hp1 ⟨rfl, ⟨b1, b2, b3, b4⟩, ⟨A1, B1, H1⟩, pr2⟩
  refine z_aload_n dL_law_837 lw_g2 ?_
  refine z_scr (j := 1) dL_law_838 dL_law_839 dL_law_841 dL_law_842 dL_law_843 (by decide) (by omega) hL (by omega) ?_
  refine z_callV dL_law_844 tM_13_96 mt_12066 (Nat.le_of_ble_eq_true rfl) rfl rfl (z_recv H1.2.1 dr_41 rfl) rfl (ia_oks_le H1.2.2.2.2 lw_ok1) (Nat.le_of_ble_eq_true rfl) pr2 ?_ (hx _ _ _ (by decide))
  rintro v2 hp2 ⟨rfl, e2, A2, B2, H2, I2⟩
  refine z_icmp_eq_t (tgt := 1654) dL_law_847 (by decide) rfl ?_
  exact hQ hp2 A2 B2 H2 I2 (by rw [e2]; exact ⟨b2, b3, b4⟩)
theorem lc_table (H : Both A B hp) (I : Inv M A B) (hM : M < 900000) (hn : hp.2.1 < 999998) (hi : i + 5 < L) (hL : L < 1000000) (hx : ∀ pc st hp, pc ≠ 390 → ex pc st hp = none) (hQ : ∀ h2 A2 B2, Both A2 B2 h2 → Inv (M + 1000) A2 B2 → (h2.2.1 ≤ hp.2.1 + 1 ∧ h2.2.2.1 ≤ hp.2.2.1 + 1 ∧ h2.2.2.2 ≤ hp.2.2.2 + 202) → zW (ia_P0 L xs fm) ex (d + 150) 13 false cL_law nL (some .boolean) 1654 (lwLv e i) [] h2 Q) : zW (ia_P0 L xs fm) ex (d + 150) 13 false cL_law nL (some .boolean) 852 (lwLv e i) [] hp Q := by
  obtain ⟨r, pr⟩ := pr_table (L := L) (xs := xs) (fm := fm) (d := d) H I hM (by omega) (xs (i + 1))
  refine z_aload_n dL_law_852 lw_g1 ?_
  refine z_scr (j := 1) dL_law_853 dL_law_854 dL_law_856 dL_law_857 dL_law_858 (by decide) (by omega) hL (by omega) ?_
  refine z_callV dL_law_859 tM_13_97 mt_11026 (Nat.le_of_ble_eq_true rfl) rfl rfl (z_recv H.1 dc_0 rfl) rfl (ia_oks_le H.2.2.2.2 lw_ok0) (Nat.le_of_ble_eq_true rfl) pr ?_ (hx _ _ _ (by decide))
  rintro v hp1 ⟨rfl, ⟨b1, b2, b3, b4⟩, ⟨A1, B1, H1⟩, pr2⟩
  refine z_aload_n dL_law_862 lw_g2 ?_
  refine z_scr (j := 1) dL_law_863 dL_law_864 dL_law_866 dL_law_867 dL_law_868 (by decide) (by omega) hL (by omega) ?_
  refine z_callV dL_law_869 tM_13_100 mt_12067 (Nat.le_of_ble_eq_true rfl) rfl rfl (z_recv H1.2.1 dr_41 rfl) rfl (ia_oks_le H1.2.2.2.2 lw_ok1) (Nat.le_of_ble_eq_true rfl) pr2 ?_ (hx _ _ _ (by decide))
  rintro v2 hp2 ⟨rfl, e2, A2, B2, H2, I2⟩
  refine z_icmp_eq_t (tgt := 1654) dL_law_872 (by decide) rfl ?_
  exact hQ hp2 A2 B2 H2 I2 (by rw [e2]; exact ⟨b2, b3, b4⟩)
theorem lc_undo (H : Both A B hp) (I : Inv M A B) (hM : M < 900000) (hn : hp.2.1 < 999998) (hi : i + 5 < L) (hL : L < 1000000) (hx : ∀ pc st hp, pc ≠ 390 → ex pc st hp = none) (hQ : ∀ h2 A2 B2, Both A2 B2 h2 → Inv (M + 1000) A2 B2 → (h2.2.1 ≤ hp.2.1 + 1 ∧ h2.2.2.1 ≤ hp.2.2.1 + 1 ∧ h2.2.2.2 ≤ hp.2.2.2 + 202) → zW (ia_P0 L xs fm) ex (d + 150) 13 false cL_law nL (some .boolean) 1654 (lwLv e i) [] h2 Q) : zW (ia_P0 L xs fm) ex (d + 150) 13 false cL_law nL (some .boolean) 877 (lwLv e i) [] hp Q := by
  obtain ⟨r, pr⟩ := pr_undo (L := L) (xs := xs) (fm := fm) (d := d) H I hM (by omega) 
  refine z_aload_n dL_law_877 lw_g1 ?_
  refine z_callV dL_law_878 tM_13_101 mt_11027 (Nat.le_of_ble_eq_true rfl) rfl rfl (z_recv H.1 dc_0 rfl) rfl (ia_oks_le H.2.2.2.2 lw_ok0) (Nat.le_of_ble_eq_true rfl) pr ?_ (hx _ _ _ (by decide))
  rintro v hp1 ⟨rfl, ⟨b1, b2, b3, b4⟩, ⟨A1, B1, H1⟩, pr2⟩
  refine z_aload_n dL_law_881 lw_g2 ?_
  refine z_callV dL_law_882 tM_13_104 mt_12068 (Nat.le_of_ble_eq_true rfl) rfl rfl (z_recv H1.2.1 dr_41 rfl) rfl (ia_oks_le H1.2.2.2.2 lw_ok1) (Nat.le_of_ble_eq_true rfl) pr2 ?_ (hx _ _ _ (by decide))
  rintro v2 hp2 ⟨rfl, e2, A2, B2, H2, I2⟩
  refine z_icmp_eq_t (tgt := 1654) dL_law_885 (by decide) rfl ?_
  exact hQ hp2 A2 B2 H2 I2 (by rw [e2]; exact ⟨b2, b3, b4⟩)
theorem lc_soonest (H : Both A B hp) (I : Inv M A B) (hM : M < 900000) (hn : hp.2.1 < 999998) (hi : i + 5 < L) (hL : L < 1000000) (hx : ∀ pc st hp, pc ≠ 390 → ex pc st hp = none) (hQ : ∀ h2 A2 B2, Both A2 B2 h2 → Inv (M + 1000) A2 B2 → (h2.2.1 ≤ hp.2.1 + 1 ∧ h2.2.2.1 ≤ hp.2.2.1 + 1 ∧ h2.2.2.2 ≤ hp.2.2.2 + 202) → zW (ia_P0 L xs fm) ex (d + 150) 13 false cL_law nL (some .boolean) 1654 (lwLv e i) [] h2 Q) : zW (ia_P0 L xs fm) ex (d + 150) 13 false cL_law nL (some .boolean) 890 (lwLv e i) [] hp Q := by
  obtain ⟨r, pr⟩ := pr_soonest (L := L) (xs := xs) (fm := fm) (d := d) H I hM (by omega) (xs (i + 1)) (nzV (xs (i + 2))) (xs (i + 3))
  refine z_aload_n dL_law_890 lw_g1 ?_
  refine z_scr (j := 1) dL_law_891 dL_law_892 dL_law_894 dL_law_895 dL_law_896 (by decide) (by omega) hL (by omega) ?_
  refine z_scr (j := 2) dL_law_897 dL_law_898 dL_law_900 dL_law_901 dL_law_902 (by decide) (by omega) hL (by omega) ?_
  refine z_nz dL_law_903 dL_law_906 dL_law_907 dL_law_910 ?_
  refine z_scr (j := 3) dL_law_911 dL_law_912 dL_law_914 dL_law_915 dL_law_916 (by decide) (by omega) hL (by omega) ?_
  refine z_callV dL_law_917 tM_13_105 mt_11028 (Nat.le_of_ble_eq_true rfl) rfl rfl (z_recv H.1 dc_0 rfl) rfl (ia_oks_le H.2.2.2.2 lw_ok0) (Nat.le_of_ble_eq_true rfl) pr ?_ (hx _ _ _ (by decide))
  rintro v hp1 ⟨rfl, ⟨b1, b2, b3, b4⟩, ⟨A1, B1, H1⟩, pr2⟩
  refine z_aload_n dL_law_920 lw_g2 ?_
  refine z_scr (j := 1) dL_law_921 dL_law_922 dL_law_924 dL_law_925 dL_law_926 (by decide) (by omega) hL (by omega) ?_
  refine z_scr (j := 2) dL_law_927 dL_law_928 dL_law_930 dL_law_931 dL_law_932 (by decide) (by omega) hL (by omega) ?_
  refine z_nz dL_law_933 dL_law_936 dL_law_937 dL_law_940 ?_
  refine z_scr (j := 3) dL_law_941 dL_law_942 dL_law_944 dL_law_945 dL_law_946 (by decide) (by omega) hL (by omega) ?_
  refine z_callV dL_law_947 tM_13_109 mt_12070 (Nat.le_of_ble_eq_true rfl) rfl rfl (z_recv H1.2.1 dr_41 rfl) rfl (ia_oks_le H1.2.2.2.2 lw_ok1) (Nat.le_of_ble_eq_true rfl) pr2 ?_ (hx _ _ _ (by decide))
  rintro v2 hp2 ⟨rfl, e2, A2, B2, H2, I2⟩
  refine z_icmp_eq_t (tgt := 1654) dL_law_950 (by decide) rfl ?_
  exact hQ hp2 A2 B2 H2 I2 (by rw [e2]; exact ⟨b2, b3, b4⟩)
theorem lc_order (H : Both A B hp) (I : Inv M A B) (hM : M < 900000) (hn : hp.2.1 < 999998) (hi : i + 5 < L) (hL : L < 1000000) (hx : ∀ pc st hp, pc ≠ 390 → ex pc st hp = none) (hQ : ∀ h2 A2 B2, Both A2 B2 h2 → Inv (M + 1000) A2 B2 → (h2.2.1 ≤ hp.2.1 + 1 ∧ h2.2.2.1 ≤ hp.2.2.1 + 1 ∧ h2.2.2.2 ≤ hp.2.2.2 + 202) → zW (ia_P0 L xs fm) ex (d + 150) 13 false cL_law nL (some .boolean) 1654 (lwLv e i) [] h2 Q) : zW (ia_P0 L xs fm) ex (d + 150) 13 false cL_law nL (some .boolean) 955 (lwLv e i) [] hp Q := by
  obtain ⟨r, pr⟩ := pr_order (L := L) (xs := xs) (fm := fm) (d := d) H I hM (by omega) (xs (i + 1))
  refine z_aload_n dL_law_955 lw_g1 ?_
  refine z_scr (j := 1) dL_law_956 dL_law_957 dL_law_959 dL_law_960 dL_law_961 (by decide) (by omega) hL (by omega) ?_
  refine z_callV dL_law_962 tM_13_110 mt_11029 (Nat.le_of_ble_eq_true rfl) rfl rfl (z_recv H.1 dc_0 rfl) rfl (ia_oks_le H.2.2.2.2 lw_ok0) (Nat.le_of_ble_eq_true rfl) pr ?_ (hx _ _ _ (by decide))
  rintro v hp1 ⟨rfl, ⟨b1, b2, b3, b4⟩, ⟨A1, B1, H1⟩, pr2⟩
  refine z_aload_n dL_law_965 lw_g2 ?_
  refine z_scr (j := 1) dL_law_966 dL_law_967 dL_law_969 dL_law_970 dL_law_971 (by decide) (by omega) hL (by omega) ?_
  refine z_callV dL_law_972 tM_13_113 mt_12076 (Nat.le_of_ble_eq_true rfl) rfl rfl (z_recv H1.2.1 dr_41 rfl) rfl (ia_oks_le H1.2.2.2.2 lw_ok1) (Nat.le_of_ble_eq_true rfl) pr2 ?_ (hx _ _ _ (by decide))
  rintro v2 hp2 ⟨rfl, e2, A2, B2, H2, I2⟩
  refine z_icmp_eq_t (tgt := 1654) dL_law_975 (by decide) rfl ?_
  exact hQ hp2 A2 B2 H2 I2 (by rw [e2]; exact ⟨b2, b3, b4⟩)
theorem lc_run (H : Both A B hp) (I : Inv M A B) (hM : M < 900000) (hn : hp.2.1 < 999998) (hi : i + 5 < L) (hL : L < 1000000) (hx : ∀ pc st hp, pc ≠ 390 → ex pc st hp = none) (hQ : ∀ h2 A2 B2, Both A2 B2 h2 → Inv (M + 1000) A2 B2 → (h2.2.1 ≤ hp.2.1 + 1 ∧ h2.2.2.1 ≤ hp.2.2.1 + 1 ∧ h2.2.2.2 ≤ hp.2.2.2 + 202) → zW (ia_P0 L xs fm) ex (d + 150) 13 false cL_law nL (some .boolean) 1654 (lwLv e i) [] h2 Q) : zW (ia_P0 L xs fm) ex (d + 150) 13 false cL_law nL (some .boolean) 980 (lwLv e i) [] hp Q := by
  obtain ⟨r, pr⟩ := pr_run (L := L) (xs := xs) (fm := fm) (d := d) H I hM (by omega) (xs (i + 1)) (xs (i + 2))
  refine z_aload_n dL_law_980 lw_g1 ?_
  refine z_scr (j := 1) dL_law_981 dL_law_982 dL_law_984 dL_law_985 dL_law_986 (by decide) (by omega) hL (by omega) ?_
  refine z_scr (j := 2) dL_law_987 dL_law_988 dL_law_990 dL_law_991 dL_law_992 (by decide) (by omega) hL (by omega) ?_
  refine z_callV dL_law_993 tM_13_114 mt_11030 (Nat.le_of_ble_eq_true rfl) rfl rfl (z_recv H.1 dc_0 rfl) rfl (ia_oks_le H.2.2.2.2 lw_ok0) (Nat.le_of_ble_eq_true rfl) pr ?_ (hx _ _ _ (by decide))
  rintro v hp1 ⟨rfl, ⟨b1, b2, b3, b4⟩, ⟨A1, B1, H1⟩, pr2⟩
  refine z_aload_n dL_law_996 lw_g2 ?_
  refine z_scr (j := 1) dL_law_997 dL_law_998 dL_law_1000 dL_law_1001 dL_law_1002 (by decide) (by omega) hL (by omega) ?_
  refine z_scr (j := 2) dL_law_1003 dL_law_1004 dL_law_1006 dL_law_1007 dL_law_1008 (by decide) (by omega) hL (by omega) ?_
  refine z_callV dL_law_1009 tM_13_117 mt_12080 (Nat.le_of_ble_eq_true rfl) rfl rfl (z_recv H1.2.1 dr_41 rfl) rfl (ia_oks_le H1.2.2.2.2 lw_ok1) (Nat.le_of_ble_eq_true rfl) pr2 ?_ (hx _ _ _ (by decide))
  rintro v2 hp2 ⟨rfl, e2, A2, B2, H2, I2⟩
  refine z_icmp_eq_t (tgt := 1654) dL_law_1012 (by decide) rfl ?_
  exact hQ hp2 A2 B2 H2 I2 (by rw [e2]; exact ⟨b2, b3, b4⟩)
theorem lc_best (H : Both A B hp) (I : Inv M A B) (hM : M < 900000) (hn : hp.2.1 < 999998) (hi : i + 5 < L) (hL : L < 1000000) (hx : ∀ pc st hp, pc ≠ 390 → ex pc st hp = none) (hQ : ∀ h2 A2 B2, Both A2 B2 h2 → Inv (M + 1000) A2 B2 → (h2.2.1 ≤ hp.2.1 + 1 ∧ h2.2.2.1 ≤ hp.2.2.1 + 1 ∧ h2.2.2.2 ≤ hp.2.2.2 + 202) → zW (ia_P0 L xs fm) ex (d + 150) 13 false cL_law nL (some .boolean) 1654 (lwLv e i) [] h2 Q) : zW (ia_P0 L xs fm) ex (d + 150) 13 false cL_law nL (some .boolean) 1017 (lwLv e i) [] hp Q := by
  obtain ⟨r, pr⟩ := pr_best (L := L) (xs := xs) (fm := fm) (d := d) H I hM (by omega) (nzV (xs (i + 1)))
  refine z_aload_n dL_law_1017 lw_g1 ?_
  refine z_scr (j := 1) dL_law_1018 dL_law_1019 dL_law_1021 dL_law_1022 dL_law_1023 (by decide) (by omega) hL (by omega) ?_
  refine z_nz dL_law_1024 dL_law_1027 dL_law_1028 dL_law_1031 ?_
  refine z_callV dL_law_1032 tM_13_118 mt_11032 (Nat.le_of_ble_eq_true rfl) rfl rfl (z_recv H.1 dc_0 rfl) rfl (ia_oks_le H.2.2.2.2 lw_ok0) (Nat.le_of_ble_eq_true rfl) pr ?_ (hx _ _ _ (by decide))
  rintro v hp1 ⟨rfl, ⟨b1, b2, b3, b4⟩, ⟨A1, B1, H1⟩, pr2⟩
  refine z_aload_n dL_law_1035 lw_g2 ?_
  refine z_scr (j := 1) dL_law_1036 dL_law_1037 dL_law_1039 dL_law_1040 dL_law_1041 (by decide) (by omega) hL (by omega) ?_
  refine z_nz dL_law_1042 dL_law_1045 dL_law_1046 dL_law_1049 ?_
  refine z_callV dL_law_1050 tM_13_122 mt_12082 (Nat.le_of_ble_eq_true rfl) rfl rfl (z_recv H1.2.1 dr_41 rfl) rfl (ia_oks_le H1.2.2.2.2 lw_ok1) (Nat.le_of_ble_eq_true rfl) pr2 ?_ (hx _ _ _ (by decide))
  rintro v2 hp2 ⟨rfl, e2, A2, B2, H2, I2⟩
  refine z_icmp_eq_t (tgt := 1654) dL_law_1053 (by decide) rfl ?_
  exact hQ hp2 A2 B2 H2 I2 (by rw [e2]; exact ⟨b2, b3, b4⟩)
theorem lc_opens (H : Both A B hp) (I : Inv M A B) (hM : M < 900000) (hn : hp.2.1 < 999998) (hi : i + 5 < L) (hL : L < 1000000) (hx : ∀ pc st hp, pc ≠ 390 → ex pc st hp = none) (hQ : ∀ h2 A2 B2, Both A2 B2 h2 → Inv (M + 1000) A2 B2 → (h2.2.1 ≤ hp.2.1 + 1 ∧ h2.2.2.1 ≤ hp.2.2.1 + 1 ∧ h2.2.2.2 ≤ hp.2.2.2 + 202) → zW (ia_P0 L xs fm) ex (d + 150) 13 false cL_law nL (some .boolean) 1654 (lwLv e i) [] h2 Q) : zW (ia_P0 L xs fm) ex (d + 150) 13 false cL_law nL (some .boolean) 1058 (lwLv e i) [] hp Q := by
  obtain ⟨r, pr⟩ := pr_opens (L := L) (xs := xs) (fm := fm) (d := d) H I hM (by omega) (xs (i + 1))
  refine z_aload_n dL_law_1058 lw_g1 ?_
  refine z_scr (j := 1) dL_law_1059 dL_law_1060 dL_law_1062 dL_law_1063 dL_law_1064 (by decide) (by omega) hL (by omega) ?_
  refine z_callV dL_law_1065 tM_13_123 mt_11034 (Nat.le_of_ble_eq_true rfl) rfl rfl (z_recv H.1 dc_0 rfl) rfl (ia_oks_le H.2.2.2.2 lw_ok0) (Nat.le_of_ble_eq_true rfl) pr ?_ (hx _ _ _ (by decide))
  rintro v hp1 ⟨rfl, ⟨b1, b2, b3, b4⟩, ⟨A1, B1, H1⟩, pr2⟩
  refine z_aload_n dL_law_1068 lw_g2 ?_
  refine z_scr (j := 1) dL_law_1069 dL_law_1070 dL_law_1072 dL_law_1073 dL_law_1074 (by decide) (by omega) hL (by omega) ?_
  refine z_callV dL_law_1075 tM_13_126 mt_12084 (Nat.le_of_ble_eq_true rfl) rfl rfl (z_recv H1.2.1 dr_41 rfl) rfl (ia_oks_le H1.2.2.2.2 lw_ok1) (Nat.le_of_ble_eq_true rfl) pr2 ?_ (hx _ _ _ (by decide))
  rintro v2 hp2 ⟨rfl, e2, A2, B2, H2, I2⟩
  refine z_icmp_eq_t (tgt := 1654) dL_law_1078 (by decide) rfl ?_
  exact hQ hp2 A2 B2 H2 I2 (by rw [e2]; exact ⟨b2, b3, b4⟩)
theorem lc_share (H : Both A B hp) (I : Inv M A B) (hM : M < 900000) (hn : hp.2.1 < 999998) (hi : i + 5 < L) (hL : L < 1000000) (hx : ∀ pc st hp, pc ≠ 390 → ex pc st hp = none) (hQ : ∀ h2 A2 B2, Both A2 B2 h2 → Inv (M + 1000) A2 B2 → (h2.2.1 ≤ hp.2.1 + 1 ∧ h2.2.2.1 ≤ hp.2.2.1 + 1 ∧ h2.2.2.2 ≤ hp.2.2.2 + 202) → zW (ia_P0 L xs fm) ex (d + 150) 13 false cL_law nL (some .boolean) 1654 (lwLv e i) [] h2 Q) : zW (ia_P0 L xs fm) ex (d + 150) 13 false cL_law nL (some .boolean) 1083 (lwLv e i) [] hp Q := by
  obtain ⟨r, pr⟩ := pr_share (L := L) (xs := xs) (fm := fm) (d := d) H I hM (by omega) (xs (i + 1))
  refine z_aload_n dL_law_1083 lw_g1 ?_
  refine z_scr (j := 1) dL_law_1084 dL_law_1085 dL_law_1087 dL_law_1088 dL_law_1089 (by decide) (by omega) hL (by omega) ?_
  refine z_callV dL_law_1090 tM_13_127 mt_11035 (Nat.le_of_ble_eq_true rfl) rfl rfl (z_recv H.1 dc_0 rfl) rfl (ia_oks_le H.2.2.2.2 lw_ok0) (Nat.le_of_ble_eq_true rfl) pr ?_ (hx _ _ _ (by decide))
  rintro v hp1 ⟨rfl, ⟨b1, b2, b3, b4⟩, ⟨A1, B1, H1⟩, pr2⟩
  refine z_aload_n dL_law_1093 lw_g2 ?_
  refine z_scr (j := 1) dL_law_1094 dL_law_1095 dL_law_1097 dL_law_1098 dL_law_1099 (by decide) (by omega) hL (by omega) ?_
  refine z_callV dL_law_1100 tM_13_130 mt_12086 (Nat.le_of_ble_eq_true rfl) rfl rfl (z_recv H1.2.1 dr_41 rfl) rfl (ia_oks_le H1.2.2.2.2 lw_ok1) (Nat.le_of_ble_eq_true rfl) pr2 ?_ (hx _ _ _ (by decide))
  rintro v2 hp2 ⟨rfl, e2, A2, B2, H2, I2⟩
  refine z_icmp_eq_t (tgt := 1654) dL_law_1103 (by decide) rfl ?_
  exact hQ hp2 A2 B2 H2 I2 (by rw [e2]; exact ⟨b2, b3, b4⟩)
theorem lc_cheapest (H : Both A B hp) (I : Inv M A B) (hM : M < 900000) (hn : hp.2.1 < 999998) (hi : i + 5 < L) (hL : L < 1000000) (hx : ∀ pc st hp, pc ≠ 390 → ex pc st hp = none) (hQ : ∀ h2 A2 B2, Both A2 B2 h2 → Inv (M + 1000) A2 B2 → (h2.2.1 ≤ hp.2.1 + 1 ∧ h2.2.2.1 ≤ hp.2.2.1 + 1 ∧ h2.2.2.2 ≤ hp.2.2.2 + 202) → zW (ia_P0 L xs fm) ex (d + 150) 13 false cL_law nL (some .boolean) 1654 (lwLv e i) [] h2 Q) : zW (ia_P0 L xs fm) ex (d + 150) 13 false cL_law nL (some .boolean) 1108 (lwLv e i) [] hp Q := by
  obtain ⟨r, pr⟩ := pr_cheapest (L := L) (xs := xs) (fm := fm) (d := d) H I hM (by omega) (xs (i + 1))
  refine z_aload_n dL_law_1108 lw_g1 ?_
  refine z_scr (j := 1) dL_law_1109 dL_law_1110 dL_law_1112 dL_law_1113 dL_law_1114 (by decide) (by omega) hL (by omega) ?_
  refine z_callV dL_law_1115 tM_13_131 mt_11036 (Nat.le_of_ble_eq_true rfl) rfl rfl (z_recv H.1 dc_0 rfl) rfl (ia_oks_le H.2.2.2.2 lw_ok0) (Nat.le_of_ble_eq_true rfl) pr ?_ (hx _ _ _ (by decide))
  rintro v hp1 ⟨rfl, ⟨b1, b2, b3, b4⟩, ⟨A1, B1, H1⟩, pr2⟩
  refine z_aload_n dL_law_1118 lw_g2 ?_
  refine z_scr (j := 1) dL_law_1119 dL_law_1120 dL_law_1122 dL_law_1123 dL_law_1124 (by decide) (by omega) hL (by omega) ?_
  refine z_callV dL_law_1125 tM_13_134 mt_12088 (Nat.le_of_ble_eq_true rfl) rfl rfl (z_recv H1.2.1 dr_41 rfl) rfl (ia_oks_le H1.2.2.2.2 lw_ok1) (Nat.le_of_ble_eq_true rfl) pr2 ?_ (hx _ _ _ (by decide))
  rintro v2 hp2 ⟨rfl, e2, A2, B2, H2, I2⟩
  refine z_icmp_eq_t (tgt := 1654) dL_law_1128 (by decide) rfl ?_
  exact hQ hp2 A2 B2 H2 I2 (by rw [e2]; exact ⟨b2, b3, b4⟩)
theorem lc_safe (H : Both A B hp) (I : Inv M A B) (hM : M < 900000) (hn : hp.2.1 < 999998) (hi : i + 5 < L) (hL : L < 1000000) (hx : ∀ pc st hp, pc ≠ 390 → ex pc st hp = none) (hQ : ∀ h2 A2 B2, Both A2 B2 h2 → Inv (M + 1000) A2 B2 → (h2.2.1 ≤ hp.2.1 + 1 ∧ h2.2.2.1 ≤ hp.2.2.1 + 1 ∧ h2.2.2.2 ≤ hp.2.2.2 + 202) → zW (ia_P0 L xs fm) ex (d + 150) 13 false cL_law nL (some .boolean) 1654 (lwLv e i) [] h2 Q) : zW (ia_P0 L xs fm) ex (d + 150) 13 false cL_law nL (some .boolean) 1133 (lwLv e i) [] hp Q := by
  obtain ⟨r, pr⟩ := pr_safe (L := L) (xs := xs) (fm := fm) (d := d) H I hM (by omega) 
  refine z_aload_n dL_law_1133 lw_g1 ?_
  refine z_callV dL_law_1134 tM_13_135 mt_11037 (Nat.le_of_ble_eq_true rfl) rfl rfl (z_recv H.1 dc_0 rfl) rfl (ia_oks_le H.2.2.2.2 lw_ok0) (Nat.le_of_ble_eq_true rfl) pr ?_ (hx _ _ _ (by decide))
  rintro v hp1 ⟨rfl, ⟨b1, b2, b3, b4⟩, ⟨A1, B1, H1⟩, pr2⟩
  refine z_aload_n dL_law_1137 lw_g2 ?_
  refine z_callV dL_law_1138 tM_13_138 mt_12090 (Nat.le_of_ble_eq_true rfl) rfl rfl (z_recv H1.2.1 dr_41 rfl) rfl (ia_oks_le H1.2.2.2.2 lw_ok1) (Nat.le_of_ble_eq_true rfl) pr2 ?_ (hx _ _ _ (by decide))
  rintro v2 hp2 ⟨rfl, e2, A2, B2, H2, I2⟩
  refine z_icmp_eq_t (tgt := 1654) dL_law_1141 (by decide) rfl ?_
  exact hQ hp2 A2 B2 H2 I2 (by rw [e2]; exact ⟨b2, b3, b4⟩)
theorem lc_enough (H : Both A B hp) (I : Inv M A B) (hM : M < 900000) (hn : hp.2.1 < 999998) (hi : i + 5 < L) (hL : L < 1000000) (hx : ∀ pc st hp, pc ≠ 390 → ex pc st hp = none) (hQ : ∀ h2 A2 B2, Both A2 B2 h2 → Inv (M + 1000) A2 B2 → (h2.2.1 ≤ hp.2.1 + 1 ∧ h2.2.2.1 ≤ hp.2.2.1 + 1 ∧ h2.2.2.2 ≤ hp.2.2.2 + 202) → zW (ia_P0 L xs fm) ex (d + 150) 13 false cL_law nL (some .boolean) 1654 (lwLv e i) [] h2 Q) : zW (ia_P0 L xs fm) ex (d + 150) 13 false cL_law nL (some .boolean) 1146 (lwLv e i) [] hp Q := by
  obtain ⟨r, pr⟩ := pr_enough (L := L) (xs := xs) (fm := fm) (d := d) H I hM (by omega) (xs (i + 1)) (xs (i + 2))
  refine z_aload_n dL_law_1146 lw_g1 ?_
  refine z_scr (j := 1) dL_law_1147 dL_law_1148 dL_law_1150 dL_law_1151 dL_law_1152 (by decide) (by omega) hL (by omega) ?_
  refine z_scr (j := 2) dL_law_1153 dL_law_1154 dL_law_1156 dL_law_1157 dL_law_1158 (by decide) (by omega) hL (by omega) ?_
  refine z_callV dL_law_1159 tM_13_139 mt_11038 (Nat.le_of_ble_eq_true rfl) rfl rfl (z_recv H.1 dc_0 rfl) rfl (ia_oks_le H.2.2.2.2 lw_ok0) (Nat.le_of_ble_eq_true rfl) pr ?_ (hx _ _ _ (by decide))
  rintro v hp1 ⟨rfl, ⟨b1, b2, b3, b4⟩, ⟨A1, B1, H1⟩, pr2⟩
  refine z_aload_n dL_law_1162 lw_g2 ?_
  refine z_scr (j := 1) dL_law_1163 dL_law_1164 dL_law_1166 dL_law_1167 dL_law_1168 (by decide) (by omega) hL (by omega) ?_
  refine z_scr (j := 2) dL_law_1169 dL_law_1170 dL_law_1172 dL_law_1173 dL_law_1174 (by decide) (by omega) hL (by omega) ?_
  refine z_callV dL_law_1175 tM_13_142 mt_12091 (Nat.le_of_ble_eq_true rfl) rfl rfl (z_recv H1.2.1 dr_41 rfl) rfl (ia_oks_le H1.2.2.2.2 lw_ok1) (Nat.le_of_ble_eq_true rfl) pr2 ?_ (hx _ _ _ (by decide))
  rintro v2 hp2 ⟨rfl, e2, A2, B2, H2, I2⟩
  refine z_icmp_eq_t (tgt := 1654) dL_law_1178 (by decide) rfl ?_
  exact hQ hp2 A2 B2 H2 I2 (by rw [e2]; exact ⟨b2, b3, b4⟩)
theorem lc_saves (H : Both A B hp) (I : Inv M A B) (hM : M < 900000) (hn : hp.2.1 < 999998) (hi : i + 5 < L) (hL : L < 1000000) (hx : ∀ pc st hp, pc ≠ 390 → ex pc st hp = none) (hQ : ∀ h2 A2 B2, Both A2 B2 h2 → Inv (M + 1000) A2 B2 → (h2.2.1 ≤ hp.2.1 + 1 ∧ h2.2.2.1 ≤ hp.2.2.1 + 1 ∧ h2.2.2.2 ≤ hp.2.2.2 + 202) → zW (ia_P0 L xs fm) ex (d + 150) 13 false cL_law nL (some .boolean) 1654 (lwLv e i) [] h2 Q) : zW (ia_P0 L xs fm) ex (d + 150) 13 false cL_law nL (some .boolean) 1183 (lwLv e i) [] hp Q := by
  obtain ⟨r, pr⟩ := pr_saves (L := L) (xs := xs) (fm := fm) (d := d) H I hM (by omega) (xs (i + 1)) (xs (i + 2))
  refine z_aload_n dL_law_1183 lw_g1 ?_
  refine z_scr (j := 1) dL_law_1184 dL_law_1185 dL_law_1187 dL_law_1188 dL_law_1189 (by decide) (by omega) hL (by omega) ?_
  refine z_scr (j := 2) dL_law_1190 dL_law_1191 dL_law_1193 dL_law_1194 dL_law_1195 (by decide) (by omega) hL (by omega) ?_
  refine z_callV dL_law_1196 tM_13_143 mt_11039 (Nat.le_of_ble_eq_true rfl) rfl rfl (z_recv H.1 dc_0 rfl) rfl (ia_oks_le H.2.2.2.2 lw_ok0) (Nat.le_of_ble_eq_true rfl) pr ?_ (hx _ _ _ (by decide))
  rintro v hp1 ⟨rfl, ⟨b1, b2, b3, b4⟩, ⟨A1, B1, H1⟩, pr2⟩
  refine z_aload_n dL_law_1199 lw_g2 ?_
  refine z_scr (j := 1) dL_law_1200 dL_law_1201 dL_law_1203 dL_law_1204 dL_law_1205 (by decide) (by omega) hL (by omega) ?_
  refine z_scr (j := 2) dL_law_1206 dL_law_1207 dL_law_1209 dL_law_1210 dL_law_1211 (by decide) (by omega) hL (by omega) ?_
  refine z_callV dL_law_1212 tM_13_146 mt_12092 (Nat.le_of_ble_eq_true rfl) rfl rfl (z_recv H1.2.1 dr_41 rfl) rfl (ia_oks_le H1.2.2.2.2 lw_ok1) (Nat.le_of_ble_eq_true rfl) pr2 ?_ (hx _ _ _ (by decide))
  rintro v2 hp2 ⟨rfl, e2, A2, B2, H2, I2⟩
  refine z_icmp_eq_t (tgt := 1654) dL_law_1215 (by decide) rfl ?_
  exact hQ hp2 A2 B2 H2 I2 (by rw [e2]; exact ⟨b2, b3, b4⟩)
theorem lc_openers (H : Both A B hp) (I : Inv M A B) (hM : M < 900000) (hn : hp.2.1 < 999998) (hi : i + 5 < L) (hL : L < 1000000) (hx : ∀ pc st hp, pc ≠ 390 → ex pc st hp = none) (hQ : ∀ h2 A2 B2, Both A2 B2 h2 → Inv (M + 1000) A2 B2 → (h2.2.1 ≤ hp.2.1 + 1 ∧ h2.2.2.1 ≤ hp.2.2.1 + 1 ∧ h2.2.2.2 ≤ hp.2.2.2 + 202) → zW (ia_P0 L xs fm) ex (d + 150) 13 false cL_law nL (some .boolean) 1654 (lwLv e i) [] h2 Q) : zW (ia_P0 L xs fm) ex (d + 150) 13 false cL_law nL (some .boolean) 1220 (lwLv e i) [] hp Q := by
  obtain ⟨r, pr⟩ := pr_openers (L := L) (xs := xs) (fm := fm) (d := d) H I hM (by omega) (xs (i + 1)) (xs (i + 2))
  refine z_aload_n dL_law_1220 lw_g1 ?_
  refine z_scr (j := 1) dL_law_1221 dL_law_1222 dL_law_1224 dL_law_1225 dL_law_1226 (by decide) (by omega) hL (by omega) ?_
  refine z_scr (j := 2) dL_law_1227 dL_law_1228 dL_law_1230 dL_law_1231 dL_law_1232 (by decide) (by omega) hL (by omega) ?_
  refine z_callV dL_law_1233 tM_13_147 mt_11042 (Nat.le_of_ble_eq_true rfl) rfl rfl (z_recv H.1 dc_0 rfl) rfl (ia_oks_le H.2.2.2.2 lw_ok0) (Nat.le_of_ble_eq_true rfl) pr ?_ (hx _ _ _ (by decide))
  rintro v hp1 ⟨rfl, ⟨b1, b2, b3, b4⟩, ⟨A1, B1, H1⟩, pr2⟩
  refine z_aload_n dL_law_1236 lw_g2 ?_
  refine z_scr (j := 1) dL_law_1237 dL_law_1238 dL_law_1240 dL_law_1241 dL_law_1242 (by decide) (by omega) hL (by omega) ?_
  refine z_scr (j := 2) dL_law_1243 dL_law_1244 dL_law_1246 dL_law_1247 dL_law_1248 (by decide) (by omega) hL (by omega) ?_
  refine z_callV dL_law_1249 tM_13_150 mt_12096 (Nat.le_of_ble_eq_true rfl) rfl rfl (z_recv H1.2.1 dr_41 rfl) rfl (ia_oks_le H1.2.2.2.2 lw_ok1) (Nat.le_of_ble_eq_true rfl) pr2 ?_ (hx _ _ _ (by decide))
  rintro v2 hp2 ⟨rfl, e2, A2, B2, H2, I2⟩
  refine z_icmp_eq_t (tgt := 1654) dL_law_1252 (by decide) rfl ?_
  exact hQ hp2 A2 B2 H2 I2 (by rw [e2]; exact ⟨b2, b3, b4⟩)
theorem lc_factory (H : Both A B hp) (I : Inv M A B) (hM : M < 900000) (hn : hp.2.1 < 999998) (hi : i + 5 < L) (hL : L < 1000000) (hx : ∀ pc st hp, pc ≠ 390 → ex pc st hp = none) (hQ : ∀ h2 A2 B2, Both A2 B2 h2 → Inv (M + 1000) A2 B2 → (h2.2.1 ≤ hp.2.1 + 1 ∧ h2.2.2.1 ≤ hp.2.2.1 + 1 ∧ h2.2.2.2 ≤ hp.2.2.2 + 202) → zW (ia_P0 L xs fm) ex (d + 150) 13 false cL_law nL (some .boolean) 1654 (lwLv e i) [] h2 Q) : zW (ia_P0 L xs fm) ex (d + 150) 13 false cL_law nL (some .boolean) 1257 (lwLv e i) [] hp Q := by
  obtain ⟨r, pr⟩ := pr_factory (L := L) (xs := xs) (fm := fm) (d := d) H I hM (by omega) (xs (i + 1)) (xs (i + 2)) (xs (i + 3))
  refine z_aload_n dL_law_1257 lw_g1 ?_
  refine z_scr (j := 1) dL_law_1258 dL_law_1259 dL_law_1261 dL_law_1262 dL_law_1263 (by decide) (by omega) hL (by omega) ?_
  refine z_scr (j := 2) dL_law_1264 dL_law_1265 dL_law_1267 dL_law_1268 dL_law_1269 (by decide) (by omega) hL (by omega) ?_
  refine z_scr (j := 3) dL_law_1270 dL_law_1271 dL_law_1273 dL_law_1274 dL_law_1275 (by decide) (by omega) hL (by omega) ?_
  refine z_callV dL_law_1276 tM_13_151 mt_11044 (Nat.le_of_ble_eq_true rfl) rfl rfl (z_recv H.1 dc_0 rfl) rfl (ia_oks_le H.2.2.2.2 lw_ok0) (Nat.le_of_ble_eq_true rfl) pr ?_ (hx _ _ _ (by decide))
  rintro v hp1 ⟨rfl, ⟨b1, b2, b3, b4⟩, ⟨A1, B1, H1⟩, pr2⟩
  refine z_aload_n dL_law_1279 lw_g2 ?_
  refine z_scr (j := 1) dL_law_1280 dL_law_1281 dL_law_1283 dL_law_1284 dL_law_1285 (by decide) (by omega) hL (by omega) ?_
  refine z_scr (j := 2) dL_law_1286 dL_law_1287 dL_law_1289 dL_law_1290 dL_law_1291 (by decide) (by omega) hL (by omega) ?_
  refine z_scr (j := 3) dL_law_1292 dL_law_1293 dL_law_1295 dL_law_1296 dL_law_1297 (by decide) (by omega) hL (by omega) ?_
  refine z_callV dL_law_1298 tM_13_154 mt_12098 (Nat.le_of_ble_eq_true rfl) rfl rfl (z_recv H1.2.1 dr_41 rfl) rfl (ia_oks_le H1.2.2.2.2 lw_ok1) (Nat.le_of_ble_eq_true rfl) pr2 ?_ (hx _ _ _ (by decide))
  rintro v2 hp2 ⟨rfl, e2, A2, B2, H2, I2⟩
  refine z_icmp_eq_t (tgt := 1654) dL_law_1301 (by decide) rfl ?_
  exact hQ hp2 A2 B2 H2 I2 (by rw [e2]; exact ⟨b2, b3, b4⟩)
theorem lc_tried (H : Both A B hp) (I : Inv M A B) (hM : M < 900000) (hn : hp.2.1 < 999998) (hi : i + 5 < L) (hL : L < 1000000) (hx : ∀ pc st hp, pc ≠ 390 → ex pc st hp = none) (hQ : ∀ h2 A2 B2, Both A2 B2 h2 → Inv (M + 1000) A2 B2 → (h2.2.1 ≤ hp.2.1 + 1 ∧ h2.2.2.1 ≤ hp.2.2.1 + 1 ∧ h2.2.2.2 ≤ hp.2.2.2 + 202) → zW (ia_P0 L xs fm) ex (d + 150) 13 false cL_law nL (some .boolean) 1654 (lwLv e i) [] h2 Q) : zW (ia_P0 L xs fm) ex (d + 150) 13 false cL_law nL (some .boolean) 1306 (lwLv e i) [] hp Q := by
  obtain ⟨r, pr⟩ := pr_tried (L := L) (xs := xs) (fm := fm) (d := d) H I hM (by omega) (xs (i + 1)) (nzV (xs (i + 2))) (nzV_01 _)
  refine z_aload_n dL_law_1306 lw_g1 ?_
  refine z_scr (j := 1) dL_law_1307 dL_law_1308 dL_law_1310 dL_law_1311 dL_law_1312 (by decide) (by omega) hL (by omega) ?_
  refine z_scr (j := 2) dL_law_1313 dL_law_1314 dL_law_1316 dL_law_1317 dL_law_1318 (by decide) (by omega) hL (by omega) ?_
  refine z_nz dL_law_1319 dL_law_1322 dL_law_1323 dL_law_1326 ?_
  refine z_callV dL_law_1327 tM_13_155 mt_11045 (Nat.le_of_ble_eq_true rfl) rfl rfl (z_recv H.1 dc_0 rfl) rfl (ia_oks_le H.2.2.2.2 lw_ok0) (Nat.le_of_ble_eq_true rfl) pr ?_ (hx _ _ _ (by decide))
  rintro v hp1 ⟨rfl, ⟨b1, b2, b3, b4⟩, ⟨A1, B1, H1⟩, pr2⟩
  refine z_aload_n dL_law_1330 lw_g2 ?_
  refine z_scr (j := 1) dL_law_1331 dL_law_1332 dL_law_1334 dL_law_1335 dL_law_1336 (by decide) (by omega) hL (by omega) ?_
  refine z_scr (j := 2) dL_law_1337 dL_law_1338 dL_law_1340 dL_law_1341 dL_law_1342 (by decide) (by omega) hL (by omega) ?_
  refine z_nz dL_law_1343 dL_law_1346 dL_law_1347 dL_law_1350 ?_
  refine z_callV dL_law_1351 tM_13_159 mt_12099 (Nat.le_of_ble_eq_true rfl) rfl rfl (z_recv H1.2.1 dr_41 rfl) rfl (ia_oks_le H1.2.2.2.2 lw_ok1) (Nat.le_of_ble_eq_true rfl) pr2 ?_ (hx _ _ _ (by decide))
  rintro v2 hp2 ⟨rfl, e2, A2, B2, H2, I2⟩
  refine z_icmp_eq_t (tgt := 1654) dL_law_1354 (by decide) rfl ?_
  exact hQ hp2 A2 B2 H2 I2 (by rw [e2]; exact ⟨b2, b3, b4⟩)
theorem lc_forgive (H : Both A B hp) (I : Inv M A B) (hM : M < 900000) (hn : hp.2.1 < 999998) (hi : i + 5 < L) (hL : L < 1000000) (hx : ∀ pc st hp, pc ≠ 390 → ex pc st hp = none) (hQ : ∀ h2 A2 B2, Both A2 B2 h2 → Inv (M + 1000) A2 B2 → (h2.2.1 ≤ hp.2.1 + 1 ∧ h2.2.2.1 ≤ hp.2.2.1 + 1 ∧ h2.2.2.2 ≤ hp.2.2.2 + 202) → zW (ia_P0 L xs fm) ex (d + 150) 13 false cL_law nL (some .boolean) 1654 (lwLv e i) [] h2 Q) : zW (ia_P0 L xs fm) ex (d + 150) 13 false cL_law nL (some .boolean) 1359 (lwLv e i) [] hp Q := by
  obtain ⟨r, pr⟩ := pr_forgive (L := L) (xs := xs) (fm := fm) (d := d) H I hM (by omega) 
  refine z_aload_n dL_law_1359 lw_g1 ?_
  refine z_callV dL_law_1360 tM_13_160 mt_11046 (Nat.le_of_ble_eq_true rfl) rfl rfl (z_recv H.1 dc_0 rfl) rfl (ia_oks_le H.2.2.2.2 lw_ok0) (Nat.le_of_ble_eq_true rfl) pr ?_ (hx _ _ _ (by decide))
  rintro v hp1 ⟨rfl, ⟨b1, b2, b3, b4⟩, ⟨A1, B1, H1⟩, pr2⟩
  refine z_aload_n dL_law_1363 lw_g2 ?_
  refine z_callV dL_law_1364 tM_13_164 mt_12100 (Nat.le_of_ble_eq_true rfl) rfl rfl (z_recv H1.2.1 dr_41 rfl) rfl (ia_oks_le H1.2.2.2.2 lw_ok1) (Nat.le_of_ble_eq_true rfl) pr2 ?_ (hx _ _ _ (by decide))
  rintro v2 hp2 ⟨rfl, e2, A2, B2, H2, I2⟩
  refine z_icmp_eq_t (tgt := 1654) dL_law_1367 (by decide) rfl ?_
  exact hQ hp2 A2 B2 H2 I2 (by rw [e2]; exact ⟨b2, b3, b4⟩)
theorem lc_tight (H : Both A B hp) (I : Inv M A B) (hM : M < 900000) (hn : hp.2.1 < 999998) (hi : i + 5 < L) (hL : L < 1000000) (hx : ∀ pc st hp, pc ≠ 390 → ex pc st hp = none) (hQ : ∀ h2 A2 B2, Both A2 B2 h2 → Inv (M + 1000) A2 B2 → (h2.2.1 ≤ hp.2.1 + 1 ∧ h2.2.2.1 ≤ hp.2.2.1 + 1 ∧ h2.2.2.2 ≤ hp.2.2.2 + 202) → zW (ia_P0 L xs fm) ex (d + 150) 13 false cL_law nL (some .boolean) 1654 (lwLv e i) [] h2 Q) : zW (ia_P0 L xs fm) ex (d + 150) 13 false cL_law nL (some .boolean) 1372 (lwLv e i) [] hp Q := by
  obtain ⟨r, pr⟩ := pr_tight (L := L) (xs := xs) (fm := fm) (d := d) H I hM (by omega) (xs (i + 1))
  refine z_aload_n dL_law_1372 lw_g1 ?_
  refine z_scr (j := 1) dL_law_1373 dL_law_1374 dL_law_1376 dL_law_1377 dL_law_1378 (by decide) (by omega) hL (by omega) ?_
  refine z_callV dL_law_1379 tM_13_165 mt_11047 (Nat.le_of_ble_eq_true rfl) rfl rfl (z_recv H.1 dc_0 rfl) rfl (ia_oks_le H.2.2.2.2 lw_ok0) (Nat.le_of_ble_eq_true rfl) pr ?_ (hx _ _ _ (by decide))
  rintro v hp1 ⟨rfl, ⟨b1, b2, b3, b4⟩, ⟨A1, B1, H1⟩, pr2⟩
  refine z_aload_n dL_law_1382 lw_g2 ?_
  refine z_scr (j := 1) dL_law_1383 dL_law_1384 dL_law_1386 dL_law_1387 dL_law_1388 (by decide) (by omega) hL (by omega) ?_
  refine z_callV dL_law_1389 tM_13_168 mt_12101 (Nat.le_of_ble_eq_true rfl) rfl rfl (z_recv H1.2.1 dr_41 rfl) rfl (ia_oks_le H1.2.2.2.2 lw_ok1) (Nat.le_of_ble_eq_true rfl) pr2 ?_ (hx _ _ _ (by decide))
  rintro v2 hp2 ⟨rfl, e2, A2, B2, H2, I2⟩
  refine z_icmp_eq_t (tgt := 1654) dL_law_1392 (by decide) rfl ?_
  exact hQ hp2 A2 B2 H2 I2 (by rw [e2]; exact ⟨b2, b3, b4⟩)
theorem lc_next (H : Both A B hp) (I : Inv M A B) (hM : M < 900000) (hn : hp.2.1 < 999998) (hi : i + 5 < L) (hL : L < 1000000) (hx : ∀ pc st hp, pc ≠ 390 → ex pc st hp = none) (hQ : ∀ h2 A2 B2, Both A2 B2 h2 → Inv (M + 1000) A2 B2 → (h2.2.1 ≤ hp.2.1 + 1 ∧ h2.2.2.1 ≤ hp.2.2.1 + 1 ∧ h2.2.2.2 ≤ hp.2.2.2 + 202) → zW (ia_P0 L xs fm) ex (d + 150) 13 false cL_law nL (some .boolean) 1654 (lwLv e i) [] h2 Q) : zW (ia_P0 L xs fm) ex (d + 150) 13 false cL_law nL (some .boolean) 1397 (lwLv e i) [] hp Q := by
  obtain ⟨r, pr⟩ := pr_next (L := L) (xs := xs) (fm := fm) (d := d) H I hM (by omega) (xs (i + 1))
  refine z_aload_n dL_law_1397 lw_g1 ?_
  refine z_scr (j := 1) dL_law_1398 dL_law_1399 dL_law_1401 dL_law_1402 dL_law_1403 (by decide) (by omega) hL (by omega) ?_
  refine z_callV dL_law_1404 tM_13_169 mt_11048 (Nat.le_of_ble_eq_true rfl) rfl rfl (z_recv H.1 dc_0 rfl) rfl (ia_oks_le H.2.2.2.2 lw_ok0) (Nat.le_of_ble_eq_true rfl) pr ?_ (hx _ _ _ (by decide))
  rintro v hp1 ⟨rfl, ⟨b1, b2, b3, b4⟩, ⟨A1, B1, H1⟩, pr2⟩
  refine z_aload_n dL_law_1407 lw_g2 ?_
  refine z_scr (j := 1) dL_law_1408 dL_law_1409 dL_law_1411 dL_law_1412 dL_law_1413 (by decide) (by omega) hL (by omega) ?_
  refine z_callV dL_law_1414 tM_13_172 mt_12103 (Nat.le_of_ble_eq_true rfl) rfl rfl (z_recv H1.2.1 dr_41 rfl) rfl (ia_oks_le H1.2.2.2.2 lw_ok1) (Nat.le_of_ble_eq_true rfl) pr2 ?_ (hx _ _ _ (by decide))
  rintro v2 hp2 ⟨rfl, e2, A2, B2, H2, I2⟩
  refine z_icmp_eq_t (tgt := 1654) dL_law_1417 (by decide) rfl ?_
  exact hQ hp2 A2 B2 H2 I2 (by rw [e2]; exact ⟨b2, b3, b4⟩)
theorem lc_who (H : Both A B hp) (I : Inv M A B) (hM : M < 900000) (hn : hp.2.1 < 999998) (hi : i + 5 < L) (hL : L < 1000000) (hx : ∀ pc st hp, pc ≠ 390 → ex pc st hp = none) (hQ : ∀ h2 A2 B2, Both A2 B2 h2 → Inv (M + 1000) A2 B2 → (h2.2.1 ≤ hp.2.1 + 1 ∧ h2.2.2.1 ≤ hp.2.2.1 + 1 ∧ h2.2.2.2 ≤ hp.2.2.2 + 202) → zW (ia_P0 L xs fm) ex (d + 150) 13 false cL_law nL (some .boolean) 1654 (lwLv e i) [] h2 Q) : zW (ia_P0 L xs fm) ex (d + 150) 13 false cL_law nL (some .boolean) 1422 (lwLv e i) [] hp Q := by
  obtain ⟨r, pr⟩ := pr_who (L := L) (xs := xs) (fm := fm) (d := d) H I hM (by omega) (xs (i + 1)) (xs (i + 2))
  refine z_aload_n dL_law_1422 lw_g1 ?_
  refine z_scr (j := 1) dL_law_1423 dL_law_1424 dL_law_1426 dL_law_1427 dL_law_1428 (by decide) (by omega) hL (by omega) ?_
  refine z_scr (j := 2) dL_law_1429 dL_law_1430 dL_law_1432 dL_law_1433 dL_law_1434 (by decide) (by omega) hL (by omega) ?_
  refine z_callV dL_law_1435 tM_13_173 mt_11049 (Nat.le_of_ble_eq_true rfl) rfl rfl (z_recv H.1 dc_0 rfl) rfl (ia_oks_le H.2.2.2.2 lw_ok0) (Nat.le_of_ble_eq_true rfl) pr ?_ (hx _ _ _ (by decide))
  rintro v hp1 ⟨rfl, ⟨b1, b2, b3, b4⟩, ⟨A1, B1, H1⟩, pr2⟩
  refine z_aload_n dL_law_1438 lw_g2 ?_
  refine z_scr (j := 1) dL_law_1439 dL_law_1440 dL_law_1442 dL_law_1443 dL_law_1444 (by decide) (by omega) hL (by omega) ?_
  refine z_scr (j := 2) dL_law_1445 dL_law_1446 dL_law_1448 dL_law_1449 dL_law_1450 (by decide) (by omega) hL (by omega) ?_
  refine z_callV dL_law_1451 tM_13_176 mt_12104 (Nat.le_of_ble_eq_true rfl) rfl rfl (z_recv H1.2.1 dr_41 rfl) rfl (ia_oks_le H1.2.2.2.2 lw_ok1) (Nat.le_of_ble_eq_true rfl) pr2 ?_ (hx _ _ _ (by decide))
  rintro v2 hp2 ⟨rfl, e2, A2, B2, H2, I2⟩
  refine z_icmp_eq_t (tgt := 1654) dL_law_1454 (by decide) rfl ?_
  exact hQ hp2 A2 B2 H2 I2 (by rw [e2]; exact ⟨b2, b3, b4⟩)
theorem lc_lefties (H : Both A B hp) (I : Inv M A B) (hM : M < 900000) (hn : hp.2.1 < 999998) (hi : i + 5 < L) (hL : L < 1000000) (hx : ∀ pc st hp, pc ≠ 390 → ex pc st hp = none) (hQ : ∀ h2 A2 B2, Both A2 B2 h2 → Inv (M + 1000) A2 B2 → (h2.2.1 ≤ hp.2.1 + 1 ∧ h2.2.2.1 ≤ hp.2.2.1 + 1 ∧ h2.2.2.2 ≤ hp.2.2.2 + 202) → zW (ia_P0 L xs fm) ex (d + 150) 13 false cL_law nL (some .boolean) 1654 (lwLv e i) [] h2 Q) : zW (ia_P0 L xs fm) ex (d + 150) 13 false cL_law nL (some .boolean) 1459 (lwLv e i) [] hp Q := by
  obtain ⟨r, pr⟩ := pr_lefties (L := L) (xs := xs) (fm := fm) (d := d) H I hM (by omega) 
  refine z_aload_n dL_law_1459 lw_g1 ?_
  refine z_callV dL_law_1460 tM_13_177 mt_11050 (Nat.le_of_ble_eq_true rfl) rfl rfl (z_recv H.1 dc_0 rfl) rfl (ia_oks_le H.2.2.2.2 lw_ok0) (Nat.le_of_ble_eq_true rfl) pr ?_ (hx _ _ _ (by decide))
  rintro v hp1 ⟨rfl, ⟨b1, b2, b3, b4⟩, ⟨A1, B1, H1⟩, pr2⟩
  refine z_aload_n dL_law_1463 lw_g2 ?_
  refine z_callV dL_law_1464 tM_13_180 mt_12105 (Nat.le_of_ble_eq_true rfl) rfl rfl (z_recv H1.2.1 dr_41 rfl) rfl (ia_oks_le H1.2.2.2.2 lw_ok1) (Nat.le_of_ble_eq_true rfl) pr2 ?_ (hx _ _ _ (by decide))
  rintro v2 hp2 ⟨rfl, e2, A2, B2, H2, I2⟩
  refine z_icmp_eq_t (tgt := 1654) dL_law_1467 (by decide) rfl ?_
  exact hQ hp2 A2 B2 H2 I2 (by rw [e2]; exact ⟨b2, b3, b4⟩)
theorem lc_evening (H : Both A B hp) (I : Inv M A B) (hM : M < 900000) (hn : hp.2.1 < 999998) (hi : i + 5 < L) (hL : L < 1000000) (hx : ∀ pc st hp, pc ≠ 390 → ex pc st hp = none) (hQ : ∀ h2 A2 B2, Both A2 B2 h2 → Inv (M + 1000) A2 B2 → (h2.2.1 ≤ hp.2.1 + 1 ∧ h2.2.2.1 ≤ hp.2.2.1 + 1 ∧ h2.2.2.2 ≤ hp.2.2.2 + 202) → zW (ia_P0 L xs fm) ex (d + 150) 13 false cL_law nL (some .boolean) 1654 (lwLv e i) [] h2 Q) : zW (ia_P0 L xs fm) ex (d + 150) 13 false cL_law nL (some .boolean) 1472 (lwLv e i) [] hp Q := by
  obtain ⟨r, pr⟩ := pr_evening (L := L) (xs := xs) (fm := fm) (d := d) H I hM (by omega) (xs (i + 1)) (evV (xs (i + 2)) (xs (i + 3)))
  refine z_aload_n dL_law_1472 lw_g1 ?_
  refine z_scr (j := 1) dL_law_1473 dL_law_1474 dL_law_1476 dL_law_1477 dL_law_1478 (by decide) (by omega) hL (by omega) ?_
  refine z_scr (j := 2) dL_law_1479 dL_law_1480 dL_law_1482 dL_law_1483 dL_law_1484 (by decide) (by omega) hL (by omega) ?_
  refine z_i2l dL_law_1485 ?_
  refine z_bipush (v := 32) dL_law_1486 (by decide) ?_
  refine z_lshl dL_law_1488 ?_
  refine z_scr (j := 3) dL_law_1489 dL_law_1490 dL_law_1492 dL_law_1493 dL_law_1494 (by decide) (by omega) hL (by omega) ?_
  refine z_i2l dL_law_1495 ?_
  refine z_ldc2 dL_law_1496 tK_13_181 ?_
  refine z_land dL_law_1499 ?_
  refine z_lor dL_law_1500 ?_
  refine z_callV dL_law_1501 tM_13_183 mt_11051 (Nat.le_of_ble_eq_true rfl) rfl rfl (z_recv H.1 dc_0 rfl) rfl (ia_oks_le H.2.2.2.2 lw_ok0) (Nat.le_of_ble_eq_true rfl) pr ?_ (hx _ _ _ (by decide))
  rintro v hp1 ⟨rfl, ⟨b1, b2, b3, b4⟩, ⟨A1, B1, H1⟩, pr2⟩
  refine z_aload_n dL_law_1504 lw_g2 ?_
  refine z_scr (j := 1) dL_law_1505 dL_law_1506 dL_law_1508 dL_law_1509 dL_law_1510 (by decide) (by omega) hL (by omega) ?_
  refine z_scr (j := 2) dL_law_1511 dL_law_1512 dL_law_1514 dL_law_1515 dL_law_1516 (by decide) (by omega) hL (by omega) ?_
  refine z_i2l dL_law_1517 ?_
  refine z_bipush (v := 32) dL_law_1518 (by decide) ?_
  refine z_lshl dL_law_1520 ?_
  refine z_scr (j := 3) dL_law_1521 dL_law_1522 dL_law_1524 dL_law_1525 dL_law_1526 (by decide) (by omega) hL (by omega) ?_
  refine z_i2l dL_law_1527 ?_
  refine z_ldc2 dL_law_1528 tK_13_181 ?_
  refine z_land dL_law_1531 ?_
  refine z_lor dL_law_1532 ?_
  refine z_callV dL_law_1533 tM_13_187 mt_12106 (Nat.le_of_ble_eq_true rfl) rfl rfl (z_recv H1.2.1 dr_41 rfl) rfl (ia_oks_le H1.2.2.2.2 lw_ok1) (Nat.le_of_ble_eq_true rfl) pr2 ?_ (hx _ _ _ (by decide))
  rintro v2 hp2 ⟨rfl, e2, A2, B2, H2, I2⟩
  refine z_icmp_eq_t (tgt := 1654) dL_law_1536 (by decide) rfl ?_
  exact hQ hp2 A2 B2 H2 I2 (by rw [e2]; exact ⟨b2, b3, b4⟩)
theorem lc_perform (H : Both A B hp) (I : Inv M A B) (hM : M < 900000) (hn : hp.2.1 < 999998) (hi : i + 5 < L) (hL : L < 1000000) (hx : ∀ pc st hp, pc ≠ 390 → ex pc st hp = none) (hQ : ∀ h2 A2 B2, Both A2 B2 h2 → Inv (M + 1000) A2 B2 → (h2.2.1 ≤ hp.2.1 + 1 ∧ h2.2.2.1 ≤ hp.2.2.1 + 1 ∧ h2.2.2.2 ≤ hp.2.2.2 + 202) → zW (ia_P0 L xs fm) ex (d + 150) 13 false cL_law nL (some .boolean) 1654 (lwLv e i) [] h2 Q) : zW (ia_P0 L xs fm) ex (d + 150) 13 false cL_law nL (some .boolean) 1541 (lwLv e i) [] hp Q := by
  obtain ⟨r, pr⟩ := pr_perform (L := L) (xs := xs) (fm := fm) (d := d) H I hM (by omega) (xs (i + 1))
  refine z_aload_n dL_law_1541 lw_g1 ?_
  refine z_scr (j := 1) dL_law_1542 dL_law_1543 dL_law_1545 dL_law_1546 dL_law_1547 (by decide) (by omega) hL (by omega) ?_
  refine z_callV dL_law_1548 tM_13_188 mt_11053 (Nat.le_of_ble_eq_true rfl) rfl rfl (z_recv H.1 dc_0 rfl) rfl (ia_oks_le H.2.2.2.2 lw_ok0) (Nat.le_of_ble_eq_true rfl) pr ?_ (hx _ _ _ (by decide))
  rintro v hp1 ⟨rfl, ⟨b1, b2, b3, b4⟩, ⟨A1, B1, H1⟩, pr2⟩
  refine z_aload_n dL_law_1551 lw_g2 ?_
  refine z_scr (j := 1) dL_law_1552 dL_law_1553 dL_law_1555 dL_law_1556 dL_law_1557 (by decide) (by omega) hL (by omega) ?_
  refine z_callV dL_law_1558 tM_13_191 mt_12083 (Nat.le_of_ble_eq_true rfl) rfl rfl (z_recv H1.2.1 dr_41 rfl) rfl (ia_oks_le H1.2.2.2.2 lw_ok1) (Nat.le_of_ble_eq_true rfl) pr2 ?_ (hx _ _ _ (by decide))
  rintro v2 hp2 ⟨rfl, e2, A2, B2, H2, I2⟩
  refine z_icmp_eq_t (tgt := 1654) dL_law_1561 (by decide) rfl ?_
  exact hQ hp2 A2 B2 H2 I2 (by rw [e2]; exact ⟨b2, b3, b4⟩)
theorem lc_log (H : Both A B hp) (I : Inv M A B) (hM : M < 900000) (hn : hp.2.1 < 999998) (hi : i + 5 < L) (hL : L < 1000000) (hx : ∀ pc st hp, pc ≠ 390 → ex pc st hp = none) (hQ : ∀ h2 A2 B2, Both A2 B2 h2 → Inv (M + 1000) A2 B2 → (h2.2.1 ≤ hp.2.1 + 1 ∧ h2.2.2.1 ≤ hp.2.2.1 + 1 ∧ h2.2.2.2 ≤ hp.2.2.2 + 202) → zW (ia_P0 L xs fm) ex (d + 150) 13 false cL_law nL (some .boolean) 1654 (lwLv e i) [] h2 Q) : zW (ia_P0 L xs fm) ex (d + 150) 13 false cL_law nL (some .boolean) 1566 (lwLv e i) [] hp Q := by
  obtain ⟨r, pr⟩ := pr_log (L := L) (xs := xs) (fm := fm) (d := d) H I hM (by omega) (xs (i + 1)) (xs (i + 2))
  refine z_aload_n dL_law_1566 lw_g1 ?_
  refine z_scr (j := 1) dL_law_1567 dL_law_1568 dL_law_1570 dL_law_1571 dL_law_1572 (by decide) (by omega) hL (by omega) ?_
  refine z_scr (j := 2) dL_law_1573 dL_law_1574 dL_law_1576 dL_law_1577 dL_law_1578 (by decide) (by omega) hL (by omega) ?_
  refine z_callV dL_law_1579 tM_13_192 mt_11054 (Nat.le_of_ble_eq_true rfl) rfl rfl (z_recv H.1 dc_0 rfl) rfl (ia_oks_le H.2.2.2.2 lw_ok0) (Nat.le_of_ble_eq_true rfl) pr ?_ (hx _ _ _ (by decide))
  rintro v hp1 ⟨rfl, ⟨b1, b2, b3, b4⟩, ⟨A1, B1, H1⟩, pr2⟩
  refine z_aload_n dL_law_1582 lw_g2 ?_
  refine z_scr (j := 1) dL_law_1583 dL_law_1584 dL_law_1586 dL_law_1587 dL_law_1588 (by decide) (by omega) hL (by omega) ?_
  refine z_scr (j := 2) dL_law_1589 dL_law_1590 dL_law_1592 dL_law_1593 dL_law_1594 (by decide) (by omega) hL (by omega) ?_
  refine z_callV dL_law_1595 tM_13_195 mt_12069 (Nat.le_of_ble_eq_true rfl) rfl rfl (z_recv H1.2.1 dr_41 rfl) rfl (ia_oks_le H1.2.2.2.2 lw_ok1) (Nat.le_of_ble_eq_true rfl) pr2 ?_ (hx _ _ _ (by decide))
  rintro v2 hp2 ⟨rfl, e2, A2, B2, H2, I2⟩
  refine z_icmp_eq_t (tgt := 1654) dL_law_1598 (by decide) rfl ?_
  exact hQ hp2 A2 B2 H2 I2 (by rw [e2]; exact ⟨b2, b3, b4⟩)
theorem lc_image (H : Both A B hp) (I : Inv M A B) (hM : M < 900000) (hn : hp.2.1 < 999998) (hi : i + 5 < L) (hL : L < 1000000) (hx : ∀ pc st hp, pc ≠ 390 → ex pc st hp = none) (hQ : ∀ h2 A2 B2, Both A2 B2 h2 → Inv (M + 1000) A2 B2 → (h2.2.1 ≤ hp.2.1 + 1 ∧ h2.2.2.1 ≤ hp.2.2.1 + 1 ∧ h2.2.2.2 ≤ hp.2.2.2 + 202) → zW (ia_P0 L xs fm) ex (d + 150) 13 false cL_law nL (some .boolean) 1654 (lwLv e i) [] h2 Q) : zW (ia_P0 L xs fm) ex (d + 150) 13 false cL_law nL (some .boolean) 1603 (lwLv e i) [] hp Q := by
  obtain ⟨r, pr⟩ := pr_image (L := L) (xs := xs) (fm := fm) (d := d) H I hM (by omega) 
  refine z_aload_n dL_law_1603 lw_g1 ?_
  refine z_callV dL_law_1604 tM_13_196 mt_11055 (Nat.le_of_ble_eq_true rfl) rfl rfl (z_recv H.1 dc_0 rfl) rfl (ia_oks_le H.2.2.2.2 lw_ok0) (Nat.le_of_ble_eq_true rfl) pr ?_ (hx _ _ _ (by decide))
  rintro v hp1 ⟨rfl, ⟨b1, b2, b3, b4⟩, ⟨A1, B1, H1⟩, pr2⟩
  refine z_aload_n dL_law_1607 lw_g2 ?_
  refine z_callV dL_law_1608 tM_13_199 mt_12108 (Nat.le_of_ble_eq_true rfl) rfl rfl (z_recv H1.2.1 dr_41 rfl) rfl (ia_oks_le H1.2.2.2.2 lw_ok1) (Nat.le_of_ble_eq_true rfl) pr2 ?_ (hx _ _ _ (by decide))
  rintro v2 hp2 ⟨rfl, e2, A2, B2, H2, I2⟩
  refine z_icmp_eq_t (tgt := 1654) dL_law_1611 (by decide) rfl ?_
  exact hQ hp2 A2 B2 H2 I2 (by rw [e2]; exact ⟨b2, b3, b4⟩)
theorem lc_back (H : Both A B hp) (I : Inv M A B) (hM : M < 900000) (hn : hp.2.1 < 999998) (hi : i + 5 < L) (hL : L < 1000000) (hx : ∀ pc st hp, pc ≠ 390 → ex pc st hp = none) (hQ : ∀ h2 A2 B2, Both A2 B2 h2 → Inv (M + 1000) A2 B2 → (h2.2.1 ≤ hp.2.1 + 1 ∧ h2.2.2.1 ≤ hp.2.2.1 + 1 ∧ h2.2.2.2 ≤ hp.2.2.2 + 202) → zW (ia_P0 L xs fm) ex (d + 150) 13 false cL_law nL (some .boolean) 1654 (lwLv e i) [] h2 Q) : zW (ia_P0 L xs fm) ex (d + 150) 13 false cL_law nL (some .boolean) 1616 (lwLv e i) [] hp Q := by
  obtain ⟨r, pr⟩ := pr_back (L := L) (xs := xs) (fm := fm) (d := d) H I hM (by omega) 
  refine z_aload_n dL_law_1616 lw_g1 ?_
  refine z_callV dL_law_1617 tM_13_200 mt_11056 (Nat.le_of_ble_eq_true rfl) rfl rfl (z_recv H.1 dc_0 rfl) rfl (ia_oks_le H.2.2.2.2 lw_ok0) (Nat.le_of_ble_eq_true rfl) pr ?_ (hx _ _ _ (by decide))
  rintro v hp1 ⟨rfl, ⟨b1, b2, b3, b4⟩, ⟨A1, B1, H1⟩, pr2⟩
  refine z_aload_n dL_law_1620 lw_g2 ?_
  refine z_callV dL_law_1621 tM_13_203 mt_12109 (Nat.le_of_ble_eq_true rfl) rfl rfl (z_recv H1.2.1 dr_41 rfl) rfl (ia_oks_le H1.2.2.2.2 lw_ok1) (Nat.le_of_ble_eq_true rfl) pr2 ?_ (hx _ _ _ (by decide))
  rintro v2 hp2 ⟨rfl, e2, A2, B2, H2, I2⟩
  refine z_icmp_eq_t (tgt := 1654) dL_law_1624 (by decide) rfl ?_
  exact hQ hp2 A2 B2 H2 I2 (by rw [e2]; exact ⟨b2, b3, b4⟩)
theorem lc_count (H : Both A B hp) (I : Inv M A B) (hM : M < 900000) (hn : hp.2.1 < 999998) (hi : i + 5 < L) (hL : L < 1000000) (hx : ∀ pc st hp, pc ≠ 390 → ex pc st hp = none) (hQ : ∀ h2 A2 B2, Both A2 B2 h2 → Inv (M + 1000) A2 B2 → (h2.2.1 ≤ hp.2.1 + 1 ∧ h2.2.2.1 ≤ hp.2.2.1 + 1 ∧ h2.2.2.2 ≤ hp.2.2.2 + 202) → zW (ia_P0 L xs fm) ex (d + 150) 13 false cL_law nL (some .boolean) 1654 (lwLv e i) [] h2 Q) : zW (ia_P0 L xs fm) ex (d + 150) 13 false cL_law nL (some .boolean) 1629 (lwLv e i) [] hp Q := by
  obtain ⟨r, pr⟩ := pr_count (L := L) (xs := xs) (fm := fm) (d := d) H I hM (by omega) (xs (i + 1))
  refine z_aload_n dL_law_1629 lw_g1 ?_
  refine z_scr (j := 1) dL_law_1630 dL_law_1631 dL_law_1633 dL_law_1634 dL_law_1635 (by decide) (by omega) hL (by omega) ?_
  refine z_callV dL_law_1636 tM_13_204 mt_11057 (Nat.le_of_ble_eq_true rfl) rfl rfl (z_recv H.1 dc_0 rfl) rfl (ia_oks_le H.2.2.2.2 lw_ok0) (Nat.le_of_ble_eq_true rfl) pr ?_ (hx _ _ _ (by decide))
  rintro v hp1 ⟨rfl, ⟨b1, b2, b3, b4⟩, ⟨A1, B1, H1⟩, pr2⟩
  refine z_aload_n dL_law_1639 lw_g2 ?_
  refine z_scr (j := 1) dL_law_1640 dL_law_1641 dL_law_1643 dL_law_1644 dL_law_1645 (by decide) (by omega) hL (by omega) ?_
  refine z_callV dL_law_1646 tM_13_207 mt_12110 (Nat.le_of_ble_eq_true rfl) rfl rfl (z_recv H1.2.1 dr_41 rfl) rfl (ia_oks_le H1.2.2.2.2 lw_ok1) (Nat.le_of_ble_eq_true rfl) pr2 ?_ (hx _ _ _ (by decide))
  rintro v2 hp2 ⟨rfl, e2, A2, B2, H2, I2⟩
  refine z_icmp_eq_t (tgt := 1654) dL_law_1649 (by decide) rfl ?_
  exact hQ hp2 A2 B2 H2 I2 (by rw [e2]; exact ⟨b2, b3, b4⟩)
end NG
