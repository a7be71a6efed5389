/-! the law's case of jar. -/
section NK
variable {L : Nat} {xs : Nat → Int32} {fm : Bool} {M d i nL nj nh nt : Nat} {h : Nat → va_E} {t : Nat × Nat × Nat} {A B : zS} {ex : Nat → List Value → ia_H → Option (List Value × ia_H)} {Q : Option Value → ia_H → Prop} {st : List Value} {e : Option (Int32 × Int32)}
theorem ia_call_det {P : ia_T} {F F' d k : Nat} {as : List Value} {hp : ia_H} {r r' : Option Value × ia_H} (h1 : ia_call P F d k as hp = some r) (h2 : ia_call P F' d k as hp = some r') : r = r' :=
  Option.some.inj ((ia_call_mono (Nat.le_max_left F F') _ _ _ _ _ _ (Nat.le_refl _) h1).symm.trans (ia_call_mono (Nat.le_max_right F F') _ _ _ _ _ _ (Nat.le_refl _) h2))
theorem ia_lp_det {P : ia_T} {F F' f f' d own pc nL : Nat} {ini : Bool} {cc : ByteArray} {ret : Option FieldType} {lv : List (Nat × Value)} {st : List Value} {hp : ia_H} {r r' : Option Value × ia_H} (h1 : ia_lp P (ia_call P F d) ex own ini cc nL ret f pc lv st hp = some r) (h2 : ia_lp P (ia_call P F' d) ex own ini cc nL ret f' pc lv st hp = some r') : r = r' :=
  Option.some.inj ((ia_lp_mono (cal' := ia_call P (max F F') d) (fun _ _ _ _ h => ia_call_mono (Nat.le_max_left F F') _ _ _ _ _ _ (Nat.le_refl _) h) _ _ _ _ _ _ _ (Nat.le_max_left f f') h1).symm.trans (ia_lp_mono (cal' := ia_call P (max F F') d) (fun _ _ _ _ h => ia_call_mono (Nat.le_max_right F F') _ _ _ _ _ _ (Nat.le_refl _) h) _ _ _ _ _ _ _ (Nat.le_max_right f f') h2))
theorem jc_ok {v1 v2 : Int32} {R : Int32 × zS} (h : f_X11_jar v1 v2 A = some R) : ∃ b S, f_X11_isJar v1 A = some (b, S) ∧ ¬ (b = 0 ∨ v2 < 0 ∨ ¬ v2 ≤ 10) := by
  unfold f_X11_jar at h
  obtain ⟨b, S, e1, h⟩ := zb_some h
  refine ⟨b, S, e1, ?_⟩
  rw [zlE] at h
  rintro (c | c | c)
  · rw [if_pos c] at h
    cases h
  · by_cases c0 : b = 0
    · rw [if_pos c0] at h
      cases h
    · rw [if_neg c0, if_pos c] at h
      cases h
  · by_cases c0 : b = 0
    · rw [if_pos c0] at h
      cases h
    · rw [if_neg c0] at h
      by_cases c1 : v2 < 0
      · rw [if_pos c1] at h
        cases h
      · rw [if_neg c1, if_neg c] at h
        cases h
theorem both_63 {f : Nat → Int64} (H : Both A B (h, t)) : Both A B (va_up h 63 (.inl (3, 1, .inr (.inl f))), t) := by
  obtain ⟨H1, H2, H3, H4, H5⟩ := H
  refine ⟨⟨H1.1, fun a e he => ⟨(H1.2.1 a e he).1, ?_⟩, fun _ _ => rfl⟩, ⟨H2.1, fun a e he => ⟨(H2.2.1 a e he).1, ?_⟩, fun _ _ => rfl⟩, ⟨f, va_up_self h 63 (.inl (3, 1, .inr (.inl f)))⟩, okh_up H4 rfl, H5⟩
  · show va_up h 63 _ a = _
    rw [va_up_ne _ _ (fun q => by rw [q, dc_63] at he; cases he)]
    exact (H1.2.1 a e he).2
  · show va_up h 63 _ a = _
    rw [va_up_ne _ _ (fun q => by rw [q, dr_63] at he; cases he)]
    exact (H2.2.1 a e he).2
theorem both_r63 {P : ia_T} {k : Nat} {as : List Value} (G : gdT P) (H : Both A B (h, t)) (HS : okS t.1 as) {R : Int32 × zS} (hw : zC P d k as (h, t) (zQi zDr h t R)) : zC P d k as (h, t) (fun v hp' => v = some (.int R.1) ∧ hp'.2 = t ∧ Both A R.2 hp' ∧ hp'.1 63 = h 63) := by
  obtain ⟨H1, H2, ⟨f, H3⟩, H4, H5⟩ := H
  obtain ⟨F, v, hp', e, ⟨h', rfl, ev, q⟩, ok⟩ := zC.ok G H4 HS hw
  refine ⟨F, v, (h', t), e, ev, rfl, ⟨q.oth H1 dj_cr, q.re, ⟨f, ?_⟩, ok, H5⟩, q.2.2 63 dr_63⟩
  exact (q.2.2 63 dr_63).trans H3
theorem jc_body (H : Both A B (h, t)) (hn : t.1 < 999998) {v1 v2 r : Int32} (er : f_X11_jar v1 v2 A = some (r, A)) : zW (ia_P0 L xs fm) ia_nx (d + 150) 13 false cL_jar 5 (some .int) 0 [(0, .ref 0), (1, .int v1), (2, .int v2), (3, .ref 63)] [] (h, t) (fun v hp' => v = some (.int 0) ∧ ∃ h' f, hp' = (h', t) ∧ Both A B (h', t) ∧ h' 63 = .inl (3, 1, .inr (.inl f)) ∧ f 0 = r.toInt64) := by
  have n64 : 64 ≤ t.1 := H.2.2.2.2
  refine z_aload_n dL_jar_0 rfl ?_
  refine z_iconst (v := 0) dL_jar_1 (by decide) ?_
  refine z_aload_n dL_jar_2 rfl ?_
  refine z_iload_n dL_jar_3 rfl ?_
  refine z_iload_n dL_jar_4 rfl ?_
  refine z_callV dL_jar_5 tM_13_7 mt_11058 (Nat.le_of_ble_eq_true rfl) rfl rfl (z_recv H.1 dc_0 rfl) rfl (ia_oks_le n64 rfl) (Nat.le_of_ble_eq_true rfl) (both_c (gdT_0 L xs fm) H (okS_two n64 (by omega) rfl) ((w_X11_jar (L := L) (xs := xs) (fm := fm) n64 (by omega) 0 H.1 er).mono (by omega))) ?_
  rintro v ⟨h1, t1⟩ ⟨rfl, e1, H1⟩
  have e1 : t1 = t := e1
  subst e1
  obtain ⟨f, e63⟩ := H1.2.2.1
  have e63 : h1 63 = .inl (3, 1, .inr (.inl f)) := e63
  refine z_i2l dL_jar_8 ?_
  refine z_wr (st' := []) (h' := va_up h1 63 (.inl (3, 1, .inr (.inl (vp_updL f (0 : Int32).toNatClampNeg r.toInt64))))) dL_jar_9 rfl ?_ ?_
  · have c : 63 < t1.1 ∧ ia_in 0 1 = true := ⟨by omega, rfl⟩
    show (match h1 63 with
      | .inl (3, N, .inr (.inl f)) => if 63 < t1.1 ∧ ia_in 0 N = true then some (([] : List Value), va_up h1 63 (.inl (3, N, .inr (.inl (vp_updL f (0 : Int32).toNatClampNeg r.toInt64))))) else none
      | _ => none) = _
    rw [e63]
    exact if_pos c
  refine z_goto (tgt := 17) dL_jar_10 (by decide) ?_
  refine z_iconst (v := 0) dL_jar_17 (by decide) ?_
  refine z_ireturn dL_jar_18 rfl ⟨rfl, _, vp_updL f (0 : Int32).toNatClampNeg r.toInt64, rfl, both_63 H1, va_up_self _ _ _, ?_⟩
  unfold vp_updL
  first | exact if_pos rfl | rfl | simp
/-- the law's call of its jar, and what the reference says then -/
theorem jc_pre (H : Both A B (h, t)) (I : InvD 0 M nj nh nt A B) (hn : t.1 < 999998) (v1 v2 : Int32) : ∃ (k r : Int32) (B' : zS) (h1 : Nat → va_E) (z1 q1 : Nat), jarX (ia_P0 L xs fm) (d + 150) 390 [.ref 63, .int v2, .int v1, .ref 0] (h, t) = some ([.int k], h1, t.1, z1, q1) ∧ Both A B (h1, t.1, z1, q1) ∧ (z1 ≤ t.2.1 + 1 ∧ q1 ≤ t.2.2 + 6) ∧ f_X12_jar v1 v2 B = some (r, B') ∧ B'.1 41 0 = k ∧ InvD 0 M nj nh nt A B' ∧ (k = 0 → ∃ f, h1 63 = .inl (3, 1, .inr (.inl f)) ∧ f 0 = r.toInt64) := by
  have n64 : 64 ≤ t.1 := H.2.2.2.2
  have G := gdT_0 L xs fm
  rcases op_jar I v1 v2 with ⟨r, B', er, e2, e3, I'⟩ | ⟨hb, r, B', e2, e3, I'⟩
  · obtain ⟨F, f, v, hp', run, rfl, h1, g, rfl, H1, e63, eg⟩ := jc_body (L := L) (xs := xs) (fm := fm) (d := d) H hn er
    refine ⟨0, r, B', h1, t.2.1, t.2.2, ?_, H1, ⟨by omega, by omega⟩, e2, e3, I', fun _ => ⟨g, e63, eg⟩⟩
    unfold jarX
    rw [if_pos rfl, jxC_neg]
    · refine jxC_pos ⟨F, f, 0, 63, v1, v2, 0, h1, t.2.1, t.2.2, rfl, run, H1.2.2.2.1, rfl⟩ ?_
      rintro r' ⟨F', f', x, o, w1, w2, w, h', z', q', est, run', -, rfl⟩
      cases est
      have := ia_lp_det run run'
      have e0 := congrArg Prod.fst this
      have e1 : h1 = h' := congrArg (fun z => z.2.1) this
      have e2 : t = (t.1, z', q') := congrArg (fun z => z.2.2) this
      have e3 : t.2.1 = z' := congrArg (fun z => z.2.1) e2
      have e4 : t.2.2 = q' := congrArg (fun z => z.2.2) e2
      have e0 : some (Value.int 0) = some (Value.int w) := e0
      cases e0
      rw [e1, e3, e4]
    · rintro r' ⟨F', x, o, w1, w2, b, fs, h', z', q', est, -, hc, hbb, -, -⟩
      cases est
      obtain ⟨b', S, f1, f2⟩ := jc_ok er
      obtain ⟨F2, v, hp', c1, c2, c3, c4⟩ := both_c (d := d + 150) (k := 11016) G H (okS_two n64 (by omega) (as := [.int v1]) rfl) ((w_X11_isJar (L := L) (xs := xs) (fm := fm) n64 (by omega) 0 H.1 f1).mono (by omega))
      have := congrArg Prod.fst (ia_call_det hc c1)
      rw [c2] at this
      have this : some (Value.int b) = some (Value.int b') := this
      cases this
      exact f2 hbb
  · obtain ⟨b, f1, f2⟩ : ∃ b, f_X11_isJar v1 A = some (b, A) ∧ (b = 0 ∨ v2 < 0 ∨ ¬ v2 ≤ 10) := by
      obtain ⟨t1, t2, t3, t4, t5, t6, t7, t8, t9, t10, t11⟩ := I.told
      have n4 := t11.1
      rcases isJar2 t1 t4 (by omega) v1 with ⟨j, hj, rfl, f1, -⟩ | ⟨f1, -⟩
      · refine ⟨1, f1, Or.inr ?_⟩
        rcases hb with c | c | c
        · rw [i_lt0, ti_nat (by omega)] at c
          omega
        · rw [t1, Int32.le_iff_toInt_le, ti_nat (by omega), ti_nat (by omega)] at c
          omega
        · exact c
      · exact ⟨0, f1, Or.inl rfl⟩
    obtain ⟨F, v, ⟨h1, t1⟩, c1, rfl, c3, c4⟩ := both_c (d := d + 150) (k := 11016) G H (okS_two n64 (by omega) (as := [.int v1]) rfl) ((w_X11_isJar (L := L) (xs := xs) (fm := fm) n64 (by omega) 0 H.1 f1).mono (by omega))
    have c3 : t1 = t := c3
    subst c3
    refine ⟨1, r, B', h1, t1.2.1 + 1, t1.2.2 + 6, ?_, c4, ⟨Nat.le_refl _, Nat.le_refl _⟩, e2, e3, I', fun q => absurd q (by decide)⟩
    unfold jarX
    rw [if_pos rfl]
    refine jxC_pos ⟨F, 0, 63, v1, v2, b, _, h1, t1.2.1, t1.2.2, rfl, z_recv H.1 dc_0 rfl, c1, f2, c4.2.2.2.1, rfl⟩ ?_
    rintro r' ⟨F', x, o, w1, w2, b', fs, h', z', q', est, -, hc, -, -, rfl⟩
    cases est
    have := ia_call_det c1 hc
    have e1 : h1 = h' := congrArg (fun z => z.2.1) this
    have e2 : t1 = (t1.1, z', q') := congrArg (fun z => z.2.2) this
    have e3 : t1.2.1 = z' := congrArg (fun z => z.2.1) e2
    have e4 : t1.2.2 = q' := congrArg (fun z => z.2.2) e2
    rw [e1, e3, e4]
theorem z_scrL {lv : List (Nat × Value)} {hp : ia_H} {pc j : Nat} {w : Int} (g0 : ia_get lv 0 = some (.ref 2000000)) (g4 : ia_get lv 4 = some (.int (Int32.ofNat i))) (h0 : decode cL_law pc = .ok (.aload_n 0, 1)) (h1 : decode cL_law (pc + 1) = .ok (.iload 4, 2)) (h2 : decode cL_law (pc + 1 + 2) = .ok (.iconst w, 1)) (h3 : decode cL_law (pc + 1 + 2 + 1) = .ok (.iadd, 1)) (h4 : decode cL_law (pc + 1 + 2 + 1 + 1) = .ok (.iaload, 1)) (hw : Int32.ofInt w = Int32.ofNat j) (hi : i + j < L) (hL : L < 1000000) (hn : hp.2.1 ≤ 1000000)
    (k : zW (ia_P0 L xs fm) ex d 13 false cL_law nL (some .boolean) (pc + 1 + 2 + 1 + 1 + 1) lv (.int (xs (i + j)) :: st) hp Q) : zW (ia_P0 L xs fm) ex d 13 false cL_law nL (some .boolean) pc lv st hp Q := by
  refine z_aload_n h0 g0 ?_
  refine z_iload h1 g4 ?_
  refine z_iconst h2 hw ?_
  refine z_iadd h3 ?_
  rw [ix_aa]
  refine z_ialoadC (N := L) (f := xs) h4 (by omega) hn hc_scr (io_in hi (by omega)) ?_
  rw [io_cl (by omega)]
  exact k
/-- the locals behind istore 5, behind istore 6 -/
def lwL5 (k : Int32) (e : Option (Int32 × Int32)) (i : Nat) : List (Nat × Value) := (5, .int k) :: (4, .int (Int32.ofNat i)) :: ((match e with
  | none => []
  | some p => [(6, .int p.1)]) ++ [(3, .ref 63), (2, .ref 41), (1, .ref 0), (0, .ref 2000000)])
def lwL6 (b k : Int32) (i : Nat) : List (Nat × Value) := [(6, .int b), (5, .int k), (4, .int (Int32.ofNat i)), (3, .ref 63), (2, .ref 41), (1, .ref 0), (0, .ref 2000000)]
theorem lw_s5 {k : Int32} : ia_set1 (lwLv e i) 5 (.int k) = lwL5 k e i := by cases e <;> rfl
theorem lw_s6 {b k : Int32} : ia_set1 (lwL5 k e i) 6 (.int b) = lwL6 b k i := by cases e <;> rfl
theorem lw_s46 {b k : Int32} {j : Nat} : ia_set1 (lwL6 b k i) 4 (.int (Int32.ofNat j)) = lwLv (some (b, k)) j := rfl
theorem l5_g0 {k : Int32} : ia_get (lwL5 k e i) 0 = some (.ref 2000000) := by cases e <;> rfl
theorem l5_g2 {k : Int32} : ia_get (lwL5 k e i) 2 = some (.ref 41) := by cases e <;> rfl
theorem l5_g4 {k : Int32} : ia_get (lwL5 k e i) 4 = some (.int (Int32.ofNat i)) := by cases e <;> rfl
theorem l5_ok {k : Int32} : ia_oks 64 (lwL5 k e i) [] = true := by cases e <;> rfl
theorem l6_ok {b k : Int32} : ia_oks 64 (lwL6 b k i) [] = true := rfl
theorem lg_same (x : Int64) : lg_cmp x x = 0 := by
  unfold lg_cmp
  rw [if_neg (by rw [gt_iff_lt, Int64.lt_iff_toInt_lt]; omega), if_pos rfl]
set_option maxHeartbeats 2000000 in
theorem jar_c (h7 : 6 < nL) (hL : L < 1000000) : JarC L xs fm (jarX (ia_P0 L xs fm) (d + 150)) d nL Q := by
  intro M i e hp A B H I hM hn hi hQ
  obtain ⟨nj, nh, nt, I⟩ := I
  obtain ⟨h, t⟩ := hp
  have hn : t.1 < 999998 := hn
  have n64 : 64 ≤ t.1 := H.2.2.2.2
  have G := gdT_0 L xs fm
  have hx : ∀ pc st hp, pc ≠ 390 → jarX (ia_P0 L xs fm) (d + 150) pc st hp = none := jarX_ne
  obtain ⟨k, r, B', h1, z1, q1, ej, H1, b1, er, ek, I', e63⟩ := jc_pre (L := L) (xs := xs) (fm := fm) (d := d) H I hn (xs (i + 1)) (xs (i + 2))
  refine z_aload_n dL_law_376 lw_g1 ?_
  refine z_scr (j := 1) dL_law_377 dL_law_378 dL_law_380 dL_law_381 dL_law_382 (by decide) (by omega) hL (by show t.1 ≤ 1000000; omega) ?_
  refine z_scr (j := 2) dL_law_383 dL_law_384 dL_law_386 dL_law_387 dL_law_388 (by decide) (by omega) hL (by show t.1 ≤ 1000000; omega) ?_
  refine z_aload_n dL_law_389 lw_g3 ?_
  refine z_ex dL_law_390 rfl ej ?_
  refine z_istore dL_law_393 (by omega) lw_s5 ?_
  refine z_aload_n dL_law_395 l5_g2 ?_
  refine z_scrL (i := i) (j := 1) l5_g0 l5_g4 dL_law_396 dL_law_397 dL_law_399 dL_law_400 dL_law_401 (by decide) (by omega) hL (by show t.1 ≤ 1000000; omega) ?_
  refine z_scrL (i := i) (j := 2) l5_g0 l5_g4 dL_law_402 dL_law_403 dL_law_405 dL_law_406 dL_law_407 (by decide) (by omega) hL (by show t.1 ≤ 1000000; omega) ?_
  refine z_callV dL_law_408 tM_13_43 mt_12039 (Nat.le_of_ble_eq_true rfl) rfl rfl (z_recv H1.2.1 dr_41 rfl) rfl (ia_oks_le n64 l5_ok) (Nat.le_of_ble_eq_true rfl) (both_r63 G H1 (okS_two n64 (by omega) rfl) ((w_X12_jar (L := L) (xs := xs) (fm := fm) (t := (t.1, z1, q1)) n64 (by show t.1 ≤ 1000000; omega) 0 H1.2.1 er).mono (by omega))) ?_ (hx _ _ _ (by decide))
  rintro v ⟨h2, t2⟩ ⟨rfl, e2, H2, f2⟩
  have e2 : t2 = (t.1, z1, q1) := e2
  subst e2
  refine z_istore dL_law_411 (by omega) lw_s6 ?_
  refine z_aload_n (x := 41) dL_law_413 rfl ?_
  refine z_callV dL_law_414 tM_13_44 mt_12001 (Nat.le_of_ble_eq_true rfl) rfl rfl (z_recv H2.2.1 dr_41 rfl) rfl (ia_oks_le n64 l6_ok) (Nat.le_of_ble_eq_true rfl) (both_r63 G H2 (okS_two n64 (by omega) rfl) ((w_X12_thrown (L := L) (xs := xs) (fm := fm) (t := (t.1, z1, q1)) n64 (by show t.1 ≤ 1000000; omega) 0 H2.2.1 (R := (B'.1 41 0, B')) rfl).mono (by omega))) ?_ (hx _ _ _ (by decide))
  rintro v ⟨h3, t3⟩ ⟨rfl, e3, H3, f3⟩
  have e3 : t3 = (t.1, z1, q1) := e3
  subst e3
  refine z_iload (x := k) dL_law_417 rfl ?_
  refine z_icmp_eq_t (tgt := 424) dL_law_419 (by decide) ek ?_
  refine z_iload (x := k) dL_law_424 rfl ?_
  have fin : zW (ia_P0 L xs fm) (jarX (ia_P0 L xs fm) (d + 150)) (d + 150) 13 false cL_law nL (some .boolean) 441 (lwL6 r k i) [] (h3, t.1, z1, q1) Q := by
    refine z_goto (tgt := 1654) dL_law_441 (by decide) ?_
    refine z_iinc (v := 6) (x := Int32.ofNat i) (lv' := lwLv (some (r, k)) (i + 6)) dL_law_1654 rfl (by omega) (by decide) (by rw [show Int32.ofNat i + 6 = Int32.ofNat (i + 6) from ix_aa i 6]; exact lw_s46) ?_
    exact hQ _ _ _ _ H3 ⟨nj, nh, nt, I'.mono (by omega)⟩ ⟨by show t.1 ≤ t.1 + 1; omega, by show z1 ≤ t.2.1 + 1000; omega, by show q1 ≤ t.2.2 + 10000; omega⟩
  by_cases k0 : k = 0
  · refine z_if_ne_f (tgt := 441) dL_law_426 (by decide) (fun q => q k0) ?_
    obtain ⟨f, g1, g2⟩ := e63 k0
    have g63 : h3 63 = .inl (3, 1, .inr (.inl f)) := f3.trans (f2.trans g1)
    refine z_aload_n (x := 63) dL_law_429 rfl ?_
    refine z_iconst (v := 0) dL_law_430 (by decide) ?_
    refine z_rd (st' := [.long r.toInt64]) dL_law_431 rfl ?_ ?_
    · have hat : ia_at (ia_P0 L xs fm) h3 t.1 63 = some (.inl (3, 1, .inr (.inl f))) := by
        unfold ia_at
        rw [if_pos (by omega), g63]
      unfold ia_rd
      simp only [hat]
      rw [← g2]
      exact if_pos rfl
    refine z_iload (x := r) dL_law_432 rfl ?_
    refine z_i2l dL_law_434 ?_
    refine z_lcmp dL_law_435 ?_
    exact z_if_eq_t (tgt := 441) dL_law_436 (by decide) (lg_same _) fin
  · exact z_if_ne_t (tgt := 441) dL_law_426 (by decide) k0 fin
end NK
