/-! the law from its entry: the two objects, the row, the loop. -/
section NN
set_option maxHeartbeats 4000000 in
set_option maxRecDepth 100000 in
/-- from the entry, for every script of at most 3072 ints, the law comes to its end with true -/
theorem whole_start {p : Program} {e : Env} {s : State} {m : MethodId} {below : List Frame} {meth : Method} {c : Code} (l : Launch) (hflags : l.flags = flags0) {b L : Nat} {xs : Nat → Int32} (hL : L ≤ 3072) (C0 : lw_At p s m meth c b L xs) : W p l e room_1 s m #[Value.ref b] below meth c s.heap [] 0 0 (lw_Z below #[Value.ref b] s) (entryFrame m ([Value.ref b] : List Value).toArray 7) := by
  obtain ⟨hx, hb, hr, hml, hown, hts, hX, hbl, hlocks, hgv⟩ := C0
  have hbc : c.code = cL_law := hb
  obtain ⟨A, eA⟩ : ∃ A : Nat → Prop, A = fun q => s.heap.size ≤ q := ⟨_, rfl⟩
  have hA : ∀ q, s.heap.size ≤ q → A q := fun q h => by rw [eA]; exact h
  have hA2 : ∀ q, A q → s.heap.size ≤ q := fun q h => by rw [eA] at h; exact h
  have hnA : ∀ a : Nat, a < s.heap.size → ¬ A a := fun a h q => Nat.not_le.mpr h (hA2 a q)
  have hgv2 := flat_of_before _ hgv
  obtain ⟨D, cy, hK0⟩ := jk_ok hts
  obtain ⟨fm, ad, hadb, hE⟩ := jz_E (A := A) hts hgv2 hX hbl hnA
  have hU : vx_Zq Bundle.tN "UNASSIGNED_STACK" Bundle.steD A s s.heap := vx_Zqof (hts _ (jw_Tok _ (lget (i := 12) rfl))) (hts _ (jw_Tok _ (lget (i := 14) rfl))) (hgv2 _ (jw_Eok _ (lget (i := 7) rfl))) hnA
  have hN : vx_Zq Bundle.tN "SUPPRESSED_SENTINEL" Bundle.listD A s s.heap := vx_Zqof (hts _ (jw_Tok _ (lget (i := 13) rfl))) (hts _ (jw_Tok _ (lget (i := 14) rfl))) (hgv2 _ (jw_Eok _ (lget (i := 8) rfl))) hnA
  have hts2 := st_ts hts
  have hXs := st_xs hts
  have hDs := st_ds hts
  have G := ia_good0 L xs fm
  have hl0 : l.stackTraces = false := by
    unfold Launch.stackTraces
    rw [hflags]
    decide +kernel
  have hK : va_K D (ia_cl (ia_P0 L xs fm)) (ia_tys cy) s := hK0
  have hown13 : s.vm.findClass (ia_rN (ia_P0 L xs fm) 13) = some m.cls := hown
  obtain ⟨h1, q1, h2, q2, n1, n2, n3, n4, l1, l2, o1, o2⟩ := st_run
  have hls := lv_entry ([Value.ref b]) (n := 7) (Nat.le_of_ble_eq_true rfl)
  rw [lg_entry_eq]
  generalize (lg_sl ([Value.ref b]) ++ List.replicate (7 - (lg_sl ([Value.ref b])).length) Slot.unset).toArray = ls at hls ⊢
  have hls : lv_has ls 7 (ia_lv ad [(0, .ref 2000000)]) := by
    show lv_has ls 7 [(0, .ref (ad 2000000))]
    rw [hadb]
    exact hls
  have hP : va_P D (ia_cl (ia_P0 L xs fm)) (ia_w cy ad nh0 0) s.heap := fun k q h => by
    rw [show ia_w cy ad nh0 0 = [] from rfl] at h
    simp at h
  have hD : va_D A (ia_w cy ad nh0 0) := by
    rw [show ia_w cy ad nh0 0 = [] from rfl]
    exact ⟨fun i j p q h => by simp at h, fun k q h => by simp at h⟩
  have hS : va_S A s.heap s.heap [] := va_S.rf
  show W p l e room_1 s m #[Value.ref b] below meth c s.heap [] 0 0 (lw_Z below #[Value.ref b] s) (F0 m 0 ls (([] : List Value).map (ia_v ad)))
  refine ia_mk_ok (P := ia_P0 L xs fm) (Ts := ia_Ts ++ ia_Xs) (own := 13) (nL := 7) (n := 0) (h := nh0) (lv := [(0, .ref 2000000)]) (st := []) (st' := [.ref 0]) (x := nwO 11 19) (k := 19) hx hbc dL_law_0 hts2 hown13 G.2.2.1 hK hP hD hS hA st_new1 rfl rfl (Nat.le_of_ble_eq_true rfl) hls (Nat.le_of_ble_eq_true rfl) (Nat.le_of_ble_eq_true rfl) (fun ad1 H hag hP hD hS hls => ?_)
  have hE := hE.ag hag
  refine ia_num_ok (st' := [.ref 0, .ref 0]) hx hbc dL_law_3 rfl ?_
  refine ia_inv_ok (P := ia_P0 L xs fm) (Ts := ia_Ts) (Xs := ia_Xs) (own := 13) (n := 1) (z := 1) (q := 19) (h := va_up nh0 0 (nwO 11 19)) (k := 11000) (kd := 2) (as := [.ref 0]) (rest := [.ref 0]) (st := [.ref 0, .ref 0]) (d := 20) (cal := ia_cal2 L xs fm 400 20) (v := none) (h' := h1) (n' := 41) (z' := 41) (q' := q1) ⟨Nat.le_of_ble_eq_true rfl, Nat.le_of_ble_eq_true rfl⟩ hx hbc hml hls.1 dL_law_4 hts2 hXs hown13 G hK hP hD hS hA hE (ia_cal2_ok l D cy 400 20) st_inv1 (Nat.le_of_ble_eq_true rfl) (st_c1 n1) ⟨Nat.le_of_ble_eq_true rfl, by show 0 + 19 + (q1 - 19) ≤ 7293034; omega⟩ (fun ad2 H locs hag hP hD hS => ?_)
  obtain ⟨e1, e2⟩ := ia_oks_st (lv := [(0, .ref 2000000)]) (st := [.ref 0]) hag rfl
  have hls : lv_has ls 7 (ia_lv ad2 [(0, .ref 2000000)]) := by rw [e1]; exact hls
  have hE := hE.ag hag
  show W p l e room_1 s m #[Value.ref b] below meth c H locs _ _ (lw_Z below #[Value.ref b] s) (F0 m 7 ls (([.ref 0] : List Value).map (ia_v ad1)))
  rw [← e2]
  refine ia_loc_ok (nL := 7) (st' := []) (lv' := [(1, .ref 0), (0, .ref 2000000)]) hx hbc dL_law_7 hls rfl (fun ls hls => ?_)
  refine ia_mk_ok (P := ia_P0 L xs fm) (Ts := ia_Ts ++ ia_Xs) (own := 13) (nL := 7) (n := 41) (h := h1) (lv := [(1, .ref 0), (0, .ref 2000000)]) (st := []) (st' := [.ref 41]) (x := nwO 12 54) (k := 54) hx hbc dL_law_8 hts2 hown13 G.2.2.1 hK hP hD hS hA st_new2 o1 rfl (Nat.le_of_ble_eq_true rfl) hls (Nat.le_of_ble_eq_true rfl) (by show 0 + 19 + (q1 - 19) + 54 ≤ 7293034; omega) (fun ad3 H hag hP hD hS hls => ?_)
  have hE := hE.ag hag
  refine ia_num_ok (st' := [.ref 41, .ref 41]) hx hbc dL_law_11 rfl ?_
  refine ia_inv_ok (P := ia_P0 L xs fm) (Ts := ia_Ts) (Xs := ia_Xs) (own := 13) (n := 42) (z := 42) (q := q1 + 54) (h := va_up h1 41 (nwO 12 54)) (k := 12000) (kd := 2) (as := [.ref 41]) (rest := [.ref 41]) (st := [.ref 41, .ref 41]) (d := 20) (cal := ia_cal2 L xs fm 400 20) (v := none) (h' := h2) (n' := 63) (z' := 63) (q' := q2) ⟨Nat.le_of_ble_eq_true rfl, Nat.le_of_ble_eq_true rfl⟩ hx hbc hml hls.1 dL_law_12 hts2 hXs hown13 G hK hP hD hS hA hE (ia_cal2_ok l D cy 400 20) st_inv2 (Nat.le_of_ble_eq_true rfl) (st_c2 n2) ⟨Nat.le_of_ble_eq_true rfl, by show 0 + 19 + (q1 - 19) + 54 + (q2 - (q1 + 54)) ≤ 7293034; omega⟩ (fun ad4 H locs hag hP hD hS => ?_)
  obtain ⟨e1, e2⟩ := ia_oks_st (lv := [(1, .ref 0), (0, .ref 2000000)]) (st := [.ref 41]) hag rfl
  have hls : lv_has ls 7 (ia_lv ad4 [(1, .ref 0), (0, .ref 2000000)]) := by rw [e1]; exact hls
  have hE := hE.ag hag
  show W p l e room_1 s m #[Value.ref b] below meth c H locs _ _ (lw_Z below #[Value.ref b] s) (F0 m 15 ls (([.ref 41] : List Value).map (ia_v ad3)))
  rw [← e2]
  refine ia_loc_ok (nL := 7) (st' := []) (lv' := [(2, .ref 41), (1, .ref 0), (0, .ref 2000000)]) hx hbc dL_law_15 hls rfl (fun ls hls => ?_)
  refine ia_num_ok (st' := [.int 1]) hx hbc dL_law_16 rfl ?_
  refine ia_mk_ok (P := ia_P0 L xs fm) (Ts := ia_Ts ++ ia_Xs) (own := 13) (nL := 7) (n := 63) (h := h2) (lv := [(2, .ref 41), (1, .ref 0), (0, .ref 2000000)]) (st := [.int 1]) (st' := [.ref 63]) (x := nwOut) (k := 1) hx hbc dL_law_17 hts2 hown13 G.2.2.1 hK hP hD hS hA st_new3 o2 rfl (Nat.le_of_ble_eq_true rfl) hls (Nat.le_of_ble_eq_true rfl) (by show 0 + 19 + (q1 - 19) + 54 + (q2 - (q1 + 54)) + 1 ≤ 7293034; omega) (fun ad5 H hag hP hD hS hls => ?_)
  have hE := hE.ag hag
  refine ia_loc_ok (nL := 7) (st' := []) (lv' := [(3, .ref 63), (2, .ref 41), (1, .ref 0), (0, .ref 2000000)]) hx hbc dL_law_19 hls rfl (fun ls hls => ?_)
  refine ia_num_ok (st' := [.int 0]) hx hbc dL_law_20 rfl ?_
  refine ia_loc_ok (nL := 7) (st' := []) (lv' := lwLv none 0) hx hbc dL_law_21 hls rfl (fun ls hls => ?_)
  obtain ⟨F, f, v, ⟨h', n', z', q'⟩, run, rfl, b1, b2, b3⟩ := st_loop (xs := xs) (fm := fm) hL n3 n4
  have b1 : n' ≤ 576 := b1
  have b2 : z' ≤ 520000 := b2
  have b3 : q' ≤ 5300000 := b3
  have fin := ia_lp_ok (R := room_1) (Q := lw_Z below #[Value.ref b] s) (P := ia_P0 L xs fm) (Ts := ia_Ts) (Xs := ia_Xs) (D := D) (cy := cy) (ad0 := ad5) (A := A) (cal := ia_call (ia_P0 L xs fm) F (0 + 150)) (ex := jarX (ia_P0 L xs fm) (0 + 150)) (own := 13) (nL := 7) (d := 0 + 150) (n0 := 64) (z0 := 0) (q0 := 0) (ini := false) (ret := some .boolean) (e := e) (below := below) (meth := meth) ⟨Nat.le_of_ble_eq_true rfl, Nat.le_of_ble_eq_true rfl⟩ ⟨by show z' - 0 ≤ 601024; omega, by show q' - 0 ≤ 7293034; omega⟩ hx hbc hml (fun h => by cases h) hts2 hXs hown13 G hK hA (ia_sound G l D cy F (0 + 150))
    (jx_hX G (jx_G0 L xs fm) hl0 ⟨Nat.le_of_ble_eq_true rfl, Nat.le_of_ble_eq_true rfl⟩ hx hbc hml hts2 hXs hown hK hA hU hN hDs)
    (fun i len pc st ad H locs ls hd hs hag hP hD hS => by
      obtain ⟨rfl, rfl, rfl⟩ := st_ret hs
      refine va_forget (fun q hq => hA2 _ (hS.2.2 q hq)) ?_
      refine W.widen (k := 601024) (n := 7293034) (by omega) (by omega) ?_
      exact lw_ret hx hb hr hlocks hd)
    f 23 (lwLv none 0) [] (va_up h2 63 nwOut) 64 64 (q2 + 1) run (Nat.le_refl _) (Nat.zero_le _) (Nat.zero_le _) ad5 H locs ls ia_ag.rf hP hD hS hE hls
  rw [Nat.sub_zero, Nat.sub_zero] at fin
  have ec : 0 + 1 + (41 - 1) + 1 + (63 - 42) + 1 = 64 := rfl
  have es : 0 + 19 + (q1 - 19) + 54 + (q2 - (q1 + 54)) + 1 = q2 + 1 := by omega
  rw [ec, es]
  exact fin
end NN
