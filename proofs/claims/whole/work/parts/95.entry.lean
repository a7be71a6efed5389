/-! what the law's entry gives (its end and entry as the kit's skeleton has them; written by gen95.py). -/
def R_law : String := "TightLidLaw"
def lw_P (b : Addr) (xs : List Int32) (args : Array Value) (s : State) : Prop := args = #[.ref b] ∧ s.IntsAt b xs ∧ xs.length ≤ 3072 ∧ (Jvm.Cond.and given_1 narrow_1).before args s = true
def lw_Q (_ : Array Value) (s : State) (o : Outcome) (t : State) : Prop := o = .returned (some (.int 1)) ∧ Framed s o t [] 601024 7293034
def lw_Z (below : List Frame) (a : Array Value) (s : State) : State → Prop := fun t => ∃ o, t.status = .running ∧ Ended t below o ∧ lw_Q a s o t
/-- the law's own end, with 1 on the stack, nothing written that was there before, its room as the claim has it -/
theorem lw_ret {p : Program} {l : Launch} {e : Env} {s : State} {m : MethodId} {below : List Frame} {meth : Method} {c : Code} {b : Nat} (hx : p.tables.exec = Jvm.exec) (hb : c.code = code) (hr : meth.sig.returnType = ret) (hlocks : meth.locks = false) {pc : Nat} {H : Heap} {ls : Array Slot} (hdg : decode code pc = .ok (.ireturn, 1)) : W p l e room_1 s m #[Value.ref b] below meth c H [] 601024 7293034 (lw_Z below #[Value.ref b] s) (F0 m pc ls [.int 1]) := by
  intro T hT X
  obtain ⟨fs, hret, hrun, hended, hW, hframe⟩ := X.leave (v := some (.int 1)) (hlocks := hlocks) (fun h => by rw [hr] at h; cases h)
  have hmeth' : T.vm.method? m = some meth := X.method'
  refine ⟨T.setFrames fs, ?_, .returned (some (.int 1)), hrun, hended, rfl, ⟨_, rfl⟩, hW, hframe⟩
  jvm_step X.here [X.here.top, hx, hb, hdg, hmeth', hr, ret, narrow_b1]
  (try refine ⟨rfl, ?_⟩); (try refine ⟨rfl, ?_⟩)
  first | (intro acts; rw [hret _ acts rfl rfl rfl]) | rw [hret _ _ rfl rfl rfl]
  exact Steps.refl _
/-- what holds at the law's entry: the machine, the code, the tables' words (any of lw_tbl by 'hts w (by decide +kernel)'), the script of L ints xs at the cell b, what the Statement gives of the start (any of its parts by flat_of_before) -/
def lw_At (p : Program) (s : State) (m : MethodId) (meth : Method) (c : Code) (b L : Nat) (xs : Nat → Int32) : Prop :=
  p.tables.exec = Jvm.exec ∧ c.code = code ∧ meth.sig.returnType = ret ∧ c.maxLocals = 7 ∧ s.vm.findClass R_law = some m.cls ∧ (∀ w ∈ lw_tbl, w.before #[Value.ref b] s = true) ∧ va_X b L xs s s.heap ∧ b < s.heap.size ∧ meth.locks = false ∧ (Jvm.Cond.and given_1 narrow_1).before #[Value.ref b] s = true
section NM
variable {args : Array Value} {s : State}
def jw_I : List Cond := [.instantiable RX0 6, .instantiable RX1 9, .instantiable RX2 3, .instantiable RX3 3, .instantiable RX4 2, .instantiable RX5 3, .instantiable RX6 3, .instantiable RX7 3, .instantiable RX8 8, .instantiable RX9 4, .instantiable RX10 2, .instantiable RX11 19, .instantiable RX12 54, .arrayClass .int, .arrayClass .byte, .arrayClass .boolean, .arrayClass .long, .arrayOver (.array .int)]
theorem jw_Iok : ∀ w ∈ jw_I, w ∈ lw_tbl := by decide +kernel
theorem jk_ok (hts : ∀ w ∈ lw_tbl, w.before args s = true) : ∃ (D : va_G) (cy : Nat → Nat), va_K D vwCl (ia_tys cy) s := by
  have hI : ∀ w ∈ jw_I, w.before args s = true := fun w h => hts w (jw_Iok w h)
  have hT : ∀ w ∈ ia_Ts, w.before args s = true := fun w h => hts w (List.mem_filter.mp h).1
  obtain ⟨c0, i0, K0⟩ := u_known (C := RX0) (T := TX0) (N := 6) (n := 6) hT ia_inX0 (hI _ (lget (i := 0) rfl))
  obtain ⟨c1, i1, K1⟩ := u_known (C := RX1) (T := TX1) (N := 9) (n := 9) hT ia_inX1 (hI _ (lget (i := 1) rfl))
  obtain ⟨c2, i2, K2⟩ := u_known (C := RX2) (T := TX2) (N := 3) (n := 3) hT ia_inX2 (hI _ (lget (i := 2) rfl))
  obtain ⟨c3, i3, K3⟩ := u_known (C := RX3) (T := TX3) (N := 3) (n := 3) hT ia_inX3 (hI _ (lget (i := 3) rfl))
  obtain ⟨c4, i4, K4⟩ := u_known (C := RX4) (T := TX4) (N := 2) (n := 2) hT ia_inX4 (hI _ (lget (i := 4) rfl))
  obtain ⟨c5, i5, K5⟩ := u_known (C := RX5) (T := TX5) (N := 3) (n := 3) hT ia_inX5 (hI _ (lget (i := 5) rfl))
  obtain ⟨c6, i6, K6⟩ := u_known (C := RX6) (T := TX6) (N := 3) (n := 3) hT ia_inX6 (hI _ (lget (i := 6) rfl))
  obtain ⟨c7, i7, K7⟩ := u_known (C := RX7) (T := TX7) (N := 3) (n := 3) hT ia_inX7 (hI _ (lget (i := 7) rfl))
  obtain ⟨c8, i8, K8⟩ := u_known (C := RX8) (T := TX8) (N := 8) (n := 8) hT ia_inX8 (hI _ (lget (i := 8) rfl))
  obtain ⟨c9, i9, K9⟩ := u_known (C := RX9) (T := TX9) (N := 4) (n := 4) hT ia_inX9 (hI _ (lget (i := 9) rfl))
  obtain ⟨c10, i10, K10⟩ := u_known (C := RX10) (T := TX10) (N := 2) (n := 2) hT ia_inX10 (hI _ (lget (i := 10) rfl))
  obtain ⟨c11, i11, K11⟩ := u_known (C := RX11) (T := TX11) (N := 19) (n := 19) hT ia_inX11 (hI _ (lget (i := 11) rfl))
  obtain ⟨c12, i12, K12⟩ := u_known (C := RX12) (T := TX12) (N := 54) (n := 54) hT ia_inX12 (hI _ (lget (i := 12) rfl))
  obtain ⟨a0, kA0, m0, x0, y0, z0⟩ := Cond.arrayClass_spec (hI _ (lget (i := 13) rfl))
  obtain ⟨a1, kA1, m1, x1, y1, z1⟩ := Cond.arrayClass_spec (hI _ (lget (i := 14) rfl))
  obtain ⟨a2, kA2, m2, x2, y2, z2⟩ := Cond.arrayClass_spec (hI _ (lget (i := 15) rfl))
  obtain ⟨a3, kA3, m3, x3, y3, z3⟩ := Cond.arrayClass_spec (hI _ (lget (i := 16) rfl))
  obtain ⟨m4, a4, kA4, -, -, y4, z4, x4⟩ := arrayOverA_spec (hI _ (lget (i := 17) rfl))
  refine ⟨(fun k => [c0, c1, c2, c3, c4, c5, c6, c7, c8, c9, c10, c11, c12].getD k 0, fun k => [i0, i1, i2, i3, i4, i5, i6, i7, i8, i9, i10, i11, i12].getD k (fun _ => 0)), fun k => [a0, a1, a2, a3, a4].getD k 0, ?_, ?_⟩
  · intro k q hq
    match k, hq with
    | 0, hq => cases hq; exact K0
    | 1, hq => cases hq; exact K1
    | 2, hq => cases hq; exact K2
    | 3, hq => cases hq; exact K3
    | 4, hq => cases hq; exact K4
    | 5, hq => cases hq; exact K5
    | 6, hq => cases hq; exact K6
    | 7, hq => cases hq; exact K7
    | 8, hq => cases hq; exact K8
    | 9, hq => cases hq; exact K9
    | 10, hq => cases hq; exact K10
    | 11, hq => cases hq; exact K11
    | 12, hq => cases hq; exact K12
    | k + 13, hq => cases hq
  · intro k q hq
    match k, hq with
    | 0, hq => cases hq; exact ⟨fun n z => ⟨fun k h => (by cases h), kA0, y0, m0, z0⟩, x0⟩
    | 1, hq => cases hq; exact ⟨fun n z => ⟨fun k h => (by cases h), kA1, y1, m1, z1⟩, x1⟩
    | 2, hq => cases hq; exact ⟨fun n z => ⟨fun k h => (by cases h), kA2, y2, m2, z2⟩, x2⟩
    | 3, hq => cases hq; exact ⟨fun n z => ⟨fun k h => (by cases h), kA3, y3, m3, z3⟩, x3⟩
    | 4, hq => cases hq; exact ⟨fun n z => ⟨fun k h => (by cases h), kA4, y4, m4, z4⟩, x4⟩
    | k + 5, hq => cases hq
theorem st_ts (hts : ∀ w ∈ lw_tbl, w.before args s = true) : ∀ w ∈ ia_Ts ++ ia_Xs, w.before args s = true := fun w h => (List.mem_append.mp h).elim (fun q => hts w (List.mem_filter.mp q).1) (fun q => hts w (List.mem_filter.mp q).1)
theorem st_xs (hts : ∀ w ∈ lw_tbl, w.before args s = true) : ∀ w ∈ ia_Xs, w.before #[] s = true := fun w hw => by
  obtain ⟨h1, h2⟩ := List.mem_filter.mp hw
  have h1 := hts w h1
  unfold ia_isX at h2
  split at h2
  · exact va_Nw.of rfl h1
  · exact va_Nw.of rfl h1
  · exact va_Nw.of rfl h1
  · exact over_moved (Vm.Alike.refl _) h1
  · cases h2
theorem st_ds (hts : ∀ w ∈ lw_tbl, w.before args s = true) : ∀ w ∈ jxD, w.before #[] s = true := fun w hw => by
  have h1 := hts w (List.mem_filter.mp hw).1
  obtain ⟨x, rfl⟩ := jxD_x hw
  exact va_Nw.of rfl h1
theorem st_new1 {L : Nat} {xs : Nat → Int32} {fm : Bool} : ia_mk (ia_P0 L xs fm) 13 (.new 8) 3 [] 0 = some ([.ref 0], nwO 11 19, 19) := rfl
theorem st_new2 {L : Nat} {xs : Nat → Int32} {fm : Bool} : ia_mk (ia_P0 L xs fm) 13 (.new 16) 3 [] 41 = some ([.ref 41], nwO 12 54, 54) := rfl
theorem st_new3 {L : Nat} {xs : Nat → Int32} {fm : Bool} : ia_mk (ia_P0 L xs fm) 13 (.newarray .long) 2 [.int 1] 63 = some ([.ref 63], nwOut, 1) := rfl
theorem st_inv1 {L : Nat} {xs : Nat → Int32} {fm : Bool} {h : Nat → va_E} {n : Nat} : ia_inv (ia_P0 L xs fm) 13 (.invokespecial 15) 3 [.ref 0, .ref 0] h n = some (11000, 2, [.ref 0], [.ref 0]) := by
  unfold ia_inv
  simp only [tM_13_15, mt_11000]
  rfl
theorem st_inv2 {L : Nat} {xs : Nat → Int32} {fm : Bool} {h : Nat → va_E} {n : Nat} : ia_inv (ia_P0 L xs fm) 13 (.invokespecial 18) 3 [.ref 41, .ref 41] h n = some (12000, 2, [.ref 41], [.ref 41]) := by
  unfold ia_inv
  simp only [tM_13_18, mt_12000]
  rfl
theorem st_ret {i : Instr} {len : Nat} {st : List Value} (h : ia_ret i len (some .boolean) st = some (some (.int 1))) : i = .ireturn ∧ len = 1 ∧ st = [.int 1] := by
  unfold ia_ret at h
  split at h
  all_goals first
    | (next q => cases q; done)
    | (split at h
       · cases h
         exact ⟨rfl, rfl, rfl⟩
       · cases h)
    | (cases h; done)
    | simp_all
theorem gdT_sw {tF : Nat → Nat → Option (Nat × Nat)} {tM : Nat → Nat → Option (Nat × Nat)} {tC : Nat → Nat → Option Nat} {tK : Nat → Nat → Option Value} {tS tS' : Nat → Nat → Option Value} {ty : Nat → Nat → FieldType} {hc hc' : Nat → va_E} {mt : Nat → Option (Nat × MethodName × ByteArray × Nat × Option FieldType × Nat)} {rN : Nat → String} {cl : List vw_C} (ht : ∀ own x v, tS' own x = some v → tS own x = some v) (hh : ∀ a, hc' a = hc a ∨ ∃ f, hc' a = .inl (9, 0, .inl f)) (G : gdT (tF, tM, tC, tK, tS, ty, hc, mt, rN, cl)) : gdT (tF, tM, tC, tK, tS', ty, hc', mt, rN, cl) := by
  refine ⟨G.1, fun own x v h => G.2.1 own x v (ht own x v h), fun a => ?_⟩
  show ia_oke 0 (hc' a) = true
  rcases hh a with e | ⟨f, e⟩
  · rw [e]
    exact G.2.2 a
  · rw [e]
    rfl
theorem gd1 : gdT ia_P1 := gdT_sw (tF := ia_tF0) (tM := ia_tM0) (tC := ia_tC0) (tK := ia_tK0) (tS := ia_tS0 (zfm false)) (tS' := ia_tS1) (ty := ia_ty0) (hc := ia_hc0 0 (fun _ => 0)) (hc' := ia_hc1) (mt := ia_mt0) (rN := ia_rN0) (cl := vwCl) tS1_in (hc1_in 0 (fun _ => 0)) (gdT_0 0 (fun _ => 0) false)
/-- what the constructors leave -/
theorem st_run : ∃ h1 q1 h2 q2, nwX 20 = some (none, h1, 41, 41, q1) ∧ nwG h1 41 41 q1 = some (none, h2, 63, 63, q2) ∧ q2 < 100000 ∧ nwC h2 = true ∧ 19 ≤ q1 ∧ q1 + 54 ≤ q2 ∧ ia_okh h1 41 = true ∧ ia_okh h2 63 = true := by
  obtain ⟨h1, q1, h2, q2, n1, n2, n3, n4⟩ := nw_run
  have o0 : ia_okh (va_up nh0 0 (nwO 11 19)) 1 = true := okh_new (n := 0) rfl (by decide +kernel)
  obtain ⟨o1, -, -⟩ := call_ok gd1 _ _ _ _ _ _ (show okH (va_up nh0 0 (nwO 11 19), 1, 1, 19) from o0) (show okS 1 [.ref 0] from rfl) n1
  obtain ⟨o2, -, -⟩ := call_ok gd1 _ _ _ _ _ _ (show okH (va_up h1 41 (nwO 12 54), 42, 42, q1 + 54) from okh_new (n := 41) o1 (by decide +kernel)) (show okS 42 [.ref 41] from rfl) n2
  have l1 := ((ia_sound ia_good1 launch0 ((fun _ => 0), fun _ _ => 0) (fun _ => 0) 400 20) _ _ _ _ _ _ _ _ _ _ _ n1).1
  have l2 := ((ia_sound ia_good1 launch0 ((fun _ => 0), fun _ _ => 0) (fun _ => 0) 400 20) _ _ _ _ _ _ _ _ _ _ _ n2).1
  exact ⟨h1, q1, h2, q2, n1, n2, n3, n4, l1.2.2, l2.2.2, o1, o2⟩
theorem st_c1 {L : Nat} {xs : Nat → Int32} {fm : Bool} {h1 : Nat → va_E} {q1 : Nat} (n1 : nwX 20 = some (none, h1, 41, 41, q1)) : ia_cal2 L xs fm 400 20 11000 [.ref 0] (va_up nh0 0 (nwO 11 19), 1, 1, 19) = some (none, h1, 41, 41, q1) := by
  unfold ia_cal2
  rw [if_pos (Or.inl rfl)]
  exact n1
theorem st_c2 {L : Nat} {xs : Nat → Int32} {fm : Bool} {h1 h2 : Nat → va_E} {q1 q2 : Nat} (n2 : nwG h1 41 41 q1 = some (none, h2, 63, 63, q2)) : ia_cal2 L xs fm 400 20 12000 [.ref 41] (va_up h1 41 (nwO 12 54), 42, 42, q1 + 54) = some (none, h2, 63, 63, q2) := by
  unfold ia_cal2
  rw [if_pos (Or.inr rfl)]
  exact n2
/-- the loop from there -/
theorem st_loop {L : Nat} {xs : Nat → Int32} {fm : Bool} {h2 : Nat → va_E} {q2 : Nat} (hL : L ≤ 3072) (hq : q2 < 100000) (n4 : nwC h2 = true) : zW (ia_P0 L xs fm) (jarX (ia_P0 L xs fm) (0 + 150)) (0 + 150) 13 false cL_law 7 (some .boolean) 23 (lwLv none 0) [] (va_up h2 63 nwOut, 64, 64, q2 + 1) (fun v h2 => v = some (.int 1) ∧ h2.2.1 ≤ 576 ∧ h2.2.2.1 ≤ 520000 ∧ h2.2.2.2 ≤ 5300000) := by
  unfold nwC at n4
  rw [Bool.and_eq_true] at n4
  have I := nw_inv n4.2
  have H : Both (nwS (va_up h2 63 nwOut) 64) (nwS (va_up h2 63 nwOut) 64) (va_up h2 63 nwOut, 64, 64, q2 + 1) := ⟨nw_zEc n4.2, nw_zEr n4.2, ⟨fun _ => 0, va_up_self h2 63 nwOut⟩, n4.1, Nat.le_refl _⟩
  exact lw_loop (d := 0) (nL := 7) hL (by omega) jarX_ne (jar_c (by omega) (by omega)) L 0 none _ _ _ (by omega) (by omega) H ⟨0, 0, 0, I⟩ (Nat.le_refl 64) (Nat.le_refl 64) (by show q2 + 1 ≤ 100000 + 10000 * 0; omega)
end NM
