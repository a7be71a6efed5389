/-! TightLidLaw.jar on the machine: TightLid.jar throws, the law catches. -/
section NI
def jxN : String := "java/util/NoSuchElementException"
def jxS : List String := ["java/lang/RuntimeException", "java/lang/Exception"]
variable {p : Program} {l : Launch} {e : Env} {R : Room} {s : State} {m : MethodId} {args : Array Value} {below : List Frame} {meth : Method} {c : Code} {H : Heap} {locs : List Loc} {cells slots : Nat} {Q : State → Prop} {cc : ByteArray}
def jxIsD (w : Cond) : Bool := match w with
  | .declares _ => true
  | _ => false
def jxD : List Cond := lw_tbl.filter jxIsD
theorem jxD_x {w : Cond} (h : w ∈ jxD) : ∃ x, w = .declares x := by
  have := (List.mem_filter.mp h).2
  unfold jxIsD at this
  split at this
  · exact ⟨_, rfl⟩
  · cases this
/-- the start of a method that may throw -/
def jx_Pc (P : ia_T) (Ts Xs : List Cond) (D : va_G) (cy ad : Nat → Nat) (h : Nat → va_E) (n sz : Nat) (as : List Value) : Array Value → State → Prop := fun a U => ia_Pc P Ts Xs D cy ad h n sz as a U ∧ vx_Zq Bundle.tN "UNASSIGNED_STACK" Bundle.steD (va_A (ia_w cy ad h n) sz) U U.heap ∧ vx_Zq Bundle.tN "SUPPRESSED_SENTINEL" Bundle.listD (va_A (ia_w cy ad h n) sz) U U.heap ∧ ∀ w ∈ jxD, w.before #[] U = true
theorem jx_blind {P : ia_T} {Ts Xs : List Cond} (hX : ia_XOK Xs) {D : va_G} {cy ad : Nat → Nat} {h : Nat → va_E} {n sz : Nat} {as : List Value} : FrameBlind (jx_Pc P Ts Xs D cy ad h n sz as) := fun a U g mk q =>
  ⟨ia_blind hX a U g mk q.1, vx_Zq.moved (u := U) (U := U.calling g mk a) (Vm.Alike.refl U.vm) q.2.1, vx_Zq.moved (u := U) (U := U.calling g mk a) (Vm.Alike.refl U.vm) q.2.2.1, fun w hw => by obtain ⟨x, rfl⟩ := jxD_x hw; exact va_Nw.same (u := U) (U := U.calling g mk a) rfl rfl (q.2.2.2 _ hw)⟩
theorem jx_ent {P : ia_T} {Ts Xs : List Cond} (hX : ia_XOK Xs) (hXs : ∀ w ∈ Xs, w.before #[] s = true) {D : va_G} {cy ad : Nat → Nat} {A : Nat → Prop} {h : Nat → va_E} {n : Nat} {as : List Value} (hK : va_K D (ia_cl P) (ia_tys cy) s) (hP : va_P D (ia_cl P) (ia_w cy ad h n) H) (hD : va_D A (ia_w cy ad h n)) (hS : va_S A s.heap H locs) (hA : ∀ q, s.heap.size ≤ q → A q) (hE : ia_E P (Ts ++ Xs) ad A s s.heap)
    (hU : vx_Zq Bundle.tN "UNASSIGNED_STACK" Bundle.steD A s s.heap) (hN : vx_Zq Bundle.tN "SUPPRESSED_SENTINEL" Bundle.listD A s s.heap) (hDs : ∀ w ∈ jxD, w.before #[] s = true) : ∀ U : State, U.heap = H → s.WarmedH U.vm → jx_Pc P Ts Xs D cy ad h n H.size as (as.map (ia_v ad)).toArray U := fun U hh hW => by
  have hi := ia_in_A (D := D) (cl := ia_cl P) hD hS hA
  refine ⟨ia_ent hX hXs hK hP hD hS hA hE U hh hW, ?_, ?_, fun w hw => by obtain ⟨x, rfl⟩ := jxD_x hw; exact va_Nw.warmD hW (hDs _ hw)⟩
  · rw [hh]
    exact vx_Zq.narrow (vx_Zq.kept (vx_Zq.moved hW.alike hU) hS.2.1) hi
  · rw [hh]
    exact vx_Zq.narrow (vx_Zq.kept (vx_Zq.moved hW.alike hN) hS.2.1) hi
/-- how TightLid.jar throws -/
def jx_X (P : ia_T) (D : va_G) (cy ad : Nat → Nat) (n : Nat) (A : Nat → Prop) (h' : Nat → va_E) (n' : Nat) : String → State → State → Prop := fun E st t => E = jxN ∧ (∃ ad', ia_ag n ad ad' ∧ va_P D (ia_cl P) (ia_w cy ad' h' n') t.heap ∧ va_D A (ia_w cy ad' h' n')) ∧ va_F A st t
/-- what the tables say of jar -/
def jxG (P : ia_T) (Ts Xs : List Cond) : Prop := ia_tM P 11 178 = some (11016, 1) ∧ ia_mt P 11016 = some (11, yX11_isJar, cX11_isJar, 2, some .boolean, 1) ∧ ia_rN P 11 = RX11 ∧ ia_tM P 13 7 = some (11058, 1) ∧ ia_mt P 11058 = some (11, yX11_jar, cX11_jar, 3, some .int, 2) ∧ ia_rN P 13 = RL ∧
  (∀ w ∈ Cond.classLink RX11 182 jxN :: Cond.initialized jxN :: vx_at0 RX11 184 jxN jxS, (w ∈ Ts ++ Xs ∨ w ∈ jxD) ∧ vx_ot w = true) ∧ Cond.classLink RL 13 jxN ∈ Ts ++ Xs ∧ Cond.castable jxN jxN ∈ Ts ++ Xs ∧ GoodIn (Ts ++ Xs) (va_wsS RL 38 yL_jar (Cond.codeWith yL_jar cL_jar 5 (some .int) [(0, 10, 13, 13)] :: Ts))
set_option maxHeartbeats 2000000 in
theorem jx_jar {P : ia_T} {Ts Xs : List Cond} (G : ia_Good P Ts Xs) (J : jxG P Ts Xs) (hl : l.stackTraces = false) (D : va_G) (cy : Nat → Nat) {F d x : Nat} {v1 v2 b : Int32} {fs : List Value} {h h' : Nat → va_E} {n z q n' z' q' : Nat}
    (ha : ia_at P h n x = some (.inr (11, fs))) (hc : ia_call P F d 11016 [.ref x, .int v1] (h, n, z, q) = some (some (.int b), h', n', z', q')) (hbb : b = 0 ∨ v2 < 0 ∨ ¬ v2 ≤ 10) (ad : Nat → Nat) (sz : Nat) :
    vx_Met l yX11_jar (Cond.code yX11_jar cX11_jar 3 (some .int) :: Ts) (ia_rm (d + 6) (z' - z + 1) (q' - q + 6)) (jx_Pc P Ts Xs D cy ad h n sz [.ref x, .int v1, .int v2]) (fun _ _ _ _ => False) (jx_X P D cy ad n (va_A (ia_w cy ad h n) sz) h' n') (z' - z + 1) (q' - q + 6) (va_A (ia_w cy ad h n) sz) := by
  obtain ⟨m1, m2, m3, m4, m5, m6, w1, w2, w3, w4⟩ := J
  refine vx_ofW (cc := cX11_jar) (maxL := 3) (ret := some .int) (by decide +kernel) rfl ?_
  intro p e s m args below meth c s₁ B hml htab hv
  obtain ⟨⟨rfl, hsz, hP, hK, hD0, hE, hXs⟩, hU, hN, hDs⟩ := hv
  have hx := B.exec
  have hb := B.bytes
  have hts := atoms_spec (ws := Cond.code yX11_jar cX11_jar 3 (some .int) :: Ts) B.pre
  have hown : s.vm.findClass RX11 = some m.cls := findClass_of_methodNamed B.named
  have hlocks := B.notSynchronized
  subst hsz
  have hD := hD0.self (sz := s.heap.size)
  have hA : ∀ q : Nat, s.heap.size ≤ q → va_A (ia_w cy ad h n) s.heap.size q := fun q h => Or.inr h
  have hS : va_S (va_A (ia_w cy ad h n) s.heap.size) s.heap s.heap [] := va_S.rf
  have hts2 : ∀ w ∈ Ts ++ Xs, w.before _ s = true := fun w hw => (List.mem_append.mp hw).elim (fun q => hts w (List.mem_cons_of_mem _ q)) (fun q => (G.2.2.2.2.2.2.2.2 w q).1 _ _ (hXs w q))
  have hls := lv_entry (([.ref x, .int v1, .int v2] : List Value).map (ia_v ad)) (n := 3) (by rw [ia_sl]; exact Nat.le_of_ble_eq_true rfl)
  rw [lg_entry_eq]
  generalize (lg_sl (([.ref x, .int v1, .int v2] : List Value).map (ia_v ad)) ++ List.replicate (3 - (lg_sl (([.ref x, .int v1, .int v2] : List Value).map (ia_v ad))).length) Slot.unset).toArray = ls at hls ⊢
  rw [ia_lvargs] at hls
  have hls : lv_has ls 3 (ia_lv ad [(0, .ref x), (1, .int v1), (2, .int v2)]) := hls
  show W p l e (ia_rm (d + 6) (z' - z + 1) (q' - q + 6)) s m _ below meth c s.heap [] 0 0 _ (F0 m 0 ls (([] : List Value).map (ia_v ad)))
  refine ia_loc_ok (st' := [.ref x]) hx hb dX11_jar_0 hls rfl (fun ls hls => ?_)
  refine ia_loc_ok (st' := [.int v1, .ref x]) hx hb dX11_jar_1 hls rfl (fun ls hls => ?_)
  refine ia_inv_ok (P := P) (own := 11) (k := 11016) (kd := 1) (as := [.ref x, .int v1]) (rest := []) (d := d) (cal := ia_call P F d) ⟨by show d + 1 ≤ d + 6; omega, by show 60 * (d + 1) ≤ 60 * (d + 6); omega⟩ hx hb hml hls.1 dX11_jar_2 hts2 hXs (by rw [m3]; exact hown) G hK hP hD hS hA hE (ia_sound G l D cy F d) (by simp [ia_inv, m1, m2, ha]) (Nat.le_of_ble_eq_true rfl) hc ⟨by show 0 + (z' - z) ≤ z' - z + 1; omega, by show 0 + (q' - q) ≤ q' - q + 6; omega⟩ (fun ad' H1 locs1 hag hP1 hD1 hS1 => ?_)
  have hw1 : ∀ w ∈ Cond.classLink RX11 182 jxN :: Cond.initialized jxN :: vx_at0 RX11 184 jxN jxS, w.before (([.ref x, .int v1, .int v2] : List Value).map (ia_v ad)).toArray s = true := fun w hw => (w1 w hw).1.elim (hts2 w) (fun q => by obtain ⟨x, rfl⟩ := jxD_x q; exact va_Nw.use rfl (hDs _ q))
  have k18 : ∀ ls : Array Slot, ls.size = 3 → W p l e (ia_rm (d + 6) (z' - z + 1) (q' - q + 6)) s m (([.ref x, .int v1, .int v2] : List Value).map (ia_v ad)).toArray below meth c H1 locs1 (0 + (z' - z)) (0 + (q' - q)) (vx_MQ below (fun _ _ _ _ => False) (jx_X P D cy ad n (va_A (ia_w cy ad h n) s.heap.size) h' n') (([.ref x, .int v1, .int v2] : List Value).map (ia_v ad)).toArray s (z' - z + 1) (q' - q + 6) (va_A (ia_w cy ad h n) s.heap.size)) (F0 m 18 ls []) := fun ls hsz => by
    refine vx_throw0 (own := RX11) (cls := jxN) (names := jxS) (ik := 182) (ic := 184) (A := va_A (ia_w cy ad h n) s.heap.size) (pc := 18) hx hb hl hown (by decide +kernel) (by decide +kernel) (hw1 _ List.mem_cons_self) (hw1 _ (List.mem_cons_of_mem _ List.mem_cons_self)) (fun w hw => hw1 w (List.mem_cons_of_mem _ (List.mem_cons_of_mem _ hw))) (fun w hw => (w1 w hw).2) hU hN hS1 (by rw [hml]; exact hsz) dX11_jar_18 dX11_jar_21 dX11_jar_22 dX11_jar_25 (fun x hx => (htab x hx).elim) (by show 2 + 3 < d + 6; omega) (by show 0 + (13 * (2 + 1) + 42) ≤ 60 * (d + 6); omega) (by show 0 + (z' - z) + 1 ≤ z' - z + 1; omega) (by show 0 + (q' - q) + 6 ≤ q' - q + 6; omega) hlocks ?_ hS1.2.2 (by omega) (by omega)
    intro t hal hz hk
    refine ⟨rfl, ⟨ad', hag, hP1.kept (fun k x hx => hk x.1 ((hP1 k x hx).lt)), hD1⟩, Nat.le_trans hS1.1 hz, fun q h1 h2 => (hk q (Nat.lt_of_lt_of_le h1 hS1.1)).trans (hS1.2.1 q h1 h2)⟩
  show W p l e (ia_rm (d + 6) (z' - z + 1) (q' - q + 6)) s m _ below meth c H1 locs1 (0 + (z' - z)) (0 + (q' - q)) _ (F0 m 5 ls (([.int b] : List Value).map (ia_v ad)))
  by_cases b0 : b = 0
  · exact ia_br_ok (pc' := 18) (st' := []) hx hb dX11_jar_5 (by simp [ia_br, ia_cj, ia_tg, b0]) (k18 ls hls.1)
  refine ia_br_ok (pc' := 8) (st' := []) hx hb dX11_jar_5 (by simp [ia_br, ia_cj, ia_tg, b0]) ?_
  refine ia_loc_ok (st' := [.int v2]) hx hb dX11_jar_8 hls rfl (fun ls hls => ?_)
  by_cases c0 : v2 < 0
  · exact ia_br_ok (pc' := 18) (st' := []) hx hb dX11_jar_9 (by simp [ia_br, ia_cj, ia_tg, c0]) (k18 ls hls.1)
  refine ia_br_ok (pc' := 12) (st' := []) hx hb dX11_jar_9 (by simp [ia_br, ia_cj, ia_tg, c0]) ?_
  refine ia_loc_ok (st' := [.int v2]) hx hb dX11_jar_12 hls rfl (fun ls hls => ?_)
  refine ia_num_ok (st' := [.int 10, .int v2]) hx hb dX11_jar_13 rfl ?_
  have c1 : ¬ v2 ≤ 10 := (hbb.resolve_left b0).resolve_left c0
  exact ia_br_ok (pc' := 18) (st' := []) hx hb dX11_jar_15 (by simp [ia_br, ia_cj, ia_tg, c1]) (k18 ls hls.1)
theorem jx_callX {pc : Nat} {ls : Array Slot} {rest st0 : List Value} {A0 A1 : Nat → Prop} {H0 : Heap} {mc ms : Nat} {free : Addr → Prop} {XC : String → State → State → Prop} (hr : vx_Run p l e R s m args below meth c H locs cells slots mc ms (F0 m pc ls st0) rest (fun _ _ _ => False) XC free) (hS : va_S A0 H0 H locs) (hA : ∀ q, q < H.size → A1 q → A0 q) (hf : ∀ q, free q → A0 q) (hF : ∀ E st t, XC E st t → va_F A1 st t)
    (kx : ∀ (E : String) (ce : Cell) (q9 : Addr) (st t : State) (H1 : Heap) (locs1 : List Loc), t.heap = H1 → XC E st t → va_S A0 H0 H1 locs1 → H1[q9]? = some ce → ce.vm = .none → s.vm.findClass E = some ce.cls → vx_W p l e R s m args below meth c H1 locs1 (cells + mc) (slots + ms) Q (F0 m pc ls rest) q9) : W p l e R s m args below meth c H locs cells slots Q (F0 m pc ls st0) := by
  intro T hT X
  rcases hr T hT X with ⟨v, st₀, t, T', L, h0, X', hL, e1, e2, hq, st⟩ | ⟨q, st₀, t, T', L, E, ce, h0, X', hL, e1, e2, hx, hce, hcv, hcl, st⟩
  · exact hq.elim
  · obtain ⟨k1, k2, k3⟩ := vx_keep h0 e1 hS hA hf hL (hF _ _ _ hx)
    obtain ⟨t2, a1, b1⟩ := kx E ce q st₀ t T'.heap (locs ++ L) e1.symm hx k3 (by rw [e1]; exact hce) hcv hcl T' rfl X'
    exact ⟨t2, st.trans a1, b1⟩
set_option maxHeartbeats 2000000 in
theorem jx_ljar {P : ia_T} {Ts Xs : List Cond} (G : ia_Good P Ts Xs) (J : jxG P Ts Xs) (hl : l.stackTraces = false) (D : va_G) (cy : Nat → Nat) {F d x o : Nat} {v1 v2 b : Int32} {fs : List Value} {h h' : Nat → va_E} {n z q n' z' q' : Nat}
    (ha : ia_at P h n x = some (.inr (11, fs))) (hc : ia_call P F d 11016 [.ref x, .int v1] (h, n, z, q) = some (some (.int b), h', n', z', q')) (hbb : b = 0 ∨ v2 < 0 ∨ ¬ v2 ≤ 10) (ad : Nat → Nat) (sz : Nat) :
    Met l yL_jar (Cond.codeWith yL_jar cL_jar 5 (some .int) [(0, 10, 13, 13)] :: Ts) (ia_rm (d + 7) (z' - z + 1) (q' - q + 6)) (jx_Pc P Ts Xs D cy ad h n sz [.ref x, .int v1, .int v2, .ref o]) (ia_Qc P D cy ad n (va_A (ia_w cy ad h n) sz) (some (.int 1)) h' n') (z' - z + 1) (q' - q + 6) (va_A (ia_w cy ad h n) sz) := by
  have hM := jx_jar (l := l) G J hl D cy ha hc hbb ad
  obtain ⟨m1, m2, m3, m4, m5, m6, w1, w2, w3, w4⟩ := J
  refine va_MetW (cc := cL_jar) (maxL := 5) (ret := some .int) (hh := [(0, 10, 13, 13)]) (by decide +kernel) rfl ?_
  intro p e s m args below meth c s₁ B hml hv
  obtain ⟨⟨rfl, hsz, hP, hK, hD0, hE, hXs⟩, hU, hN, hDs⟩ := hv
  have hx := B.exec
  have hb := B.bytes
  have hr := B.returns
  have hts := atoms_spec (ws := Cond.codeWith yL_jar cL_jar 5 (some .int) [(0, 10, 13, 13)] :: Ts) B.pre
  have htab : c.exceptionTable.toList = [] ++ (⟨0, 10, 13, 13⟩ : ExceptionTableEntry) :: [] := (vx_table (x := yL_jar) B (hts _ List.mem_cons_self)).trans rfl
  have hown : s.vm.findClass RL = some m.cls := findClass_of_methodNamed B.named
  have hlocks := B.notSynchronized
  subst hsz
  have hD := hD0.self (sz := s.heap.size)
  have hA : ∀ q : Nat, s.heap.size ≤ q → va_A (ia_w cy ad h n) s.heap.size q := fun q h => Or.inr h
  have hS : va_S (va_A (ia_w cy ad h n) s.heap.size) s.heap s.heap [] := va_S.rf
  have hts2 : ∀ w ∈ Ts ++ Xs, w.before _ s = true := fun w hw => (List.mem_append.mp hw).elim (fun q => hts w (List.mem_cons_of_mem _ q)) (fun q => (G.2.2.2.2.2.2.2.2 w q).1 _ _ (hXs w q))
  have hls := lv_entry (([.ref x, .int v1, .int v2, .ref o] : List Value).map (ia_v ad)) (n := 5) (by rw [ia_sl]; exact Nat.le_of_ble_eq_true rfl)
  rw [lg_entry_eq]
  generalize (lg_sl (([.ref x, .int v1, .int v2, .ref o] : List Value).map (ia_v ad)) ++ List.replicate (5 - (lg_sl (([.ref x, .int v1, .int v2, .ref o] : List Value).map (ia_v ad))).length) Slot.unset).toArray = ls at hls ⊢
  rw [ia_lvargs] at hls
  have hls : lv_has ls 5 (ia_lv ad [(0, .ref x), (1, .int v1), (2, .int v2), (3, .ref o)]) := hls
  show W p l e (ia_rm (d + 7) (z' - z + 1) (q' - q + 6)) s m _ below meth c s.heap [] 0 0 _ (F0 m 0 ls (([] : List Value).map (ia_v ad)))
  refine ia_loc_ok (st' := [.ref o]) hx hb dL_jar_0 hls rfl (fun ls hls => ?_)
  refine ia_num_ok (st' := [.int 0, .ref o]) hx hb dL_jar_1 rfl ?_
  refine ia_loc_ok (st' := [.ref x, .int 0, .ref o]) hx hb dL_jar_2 hls rfl (fun ls hls => ?_)
  refine ia_loc_ok (st' := [.int v1, .ref x, .int 0, .ref o]) hx hb dL_jar_3 hls rfl (fun ls hls => ?_)
  refine ia_loc_ok (st' := [.int v2, .int v1, .ref x, .int 0, .ref o]) hx hb dL_jar_4 hls rfl (fun ls hls => ?_)
  obtain ⟨g1, g2, g3, g4, g5, g6, g7⟩ := G.2.2.2.2.1 _ _ _ _ _ _ _ m5
  obtain ⟨u1, u2, u3, u4⟩ := (G.2.2.2.1 13 _ _ _ m4).2.1 rfl _ _ _ _ _ _ m5
  rw [m6] at u1
  have hrecv : ∃ cellB : Cell, s.heap[ad x]? = some cellB ∧ cellB.vm.isStatics = false ∧ s.vm.findClass yX11_jar.cls = some cellB.cls := by
    rcases ia_at_ok ha with ⟨han, hha⟩ | ⟨han, hha⟩
    · have hPa := hP _ _ (ia_we (cy := cy) (ad := ad) han hha)
      obtain ⟨r0, hr0, -⟩ := hPa
      have := va_recv hK hP hr0 (ia_we (cy := cy) (ad := ad) han hha)
      rw [g2, ← G.2.2.2.2.2.2.1 _ _ hr0]
      exact this
    · rw [g2]
      exact va_Orecv (hE.2.2.2.2.1 _ _ _ han hha) hS
  have hrun := vx_runV (R := ia_rm (d + 7) (z' - z + 1) (q' - q + 6)) (e := e) (below := below) (meth := meth) (locs := []) (cells := 0) (slots := 0) (g := F0 m 5 ls (([.int v2, .int v1, .ref x, .int 0, .ref o] : List Value).map (ia_v ad))) (As := ([.int v1, .int v2] : List Value).map (ia_v ad)) (rest := ([.int 0, .ref o] : List Value).map (ia_v ad)) (own := RL) (C := yX11_jar.cls) (index := 7) (b := ad x) (n := 2) ⟨hx, hb, hml, hown, hts2⟩ (hM s.heap.size) ⟨callB_of 2 hts2 (ia_good_in G g3) rfl rfl rfl (hts2 _ u4) (hts2 _ u1) ⟨g5, g6, g7⟩ ⟨by show d + 6 + 1 ≤ d + 7; omega, by show 8 + (3 + 11) + 60 * (d + 6) ≤ 60 * (d + 7); omega⟩, hts2 _ u2, hts2 _ u3⟩
    ⟨jx_blind G.2.2.2.2.2.2.2.2, hrecv, jx_ent G.2.2.2.2.2.2.2.2 hXs hK hP hD hS hA hE hU hN hDs⟩ rfl rfl hls.1 rfl (lv_room (by rw [ia_cat]; exact Nat.le_of_ble_eq_true rfl)) dL_jar_5 ⟨by show 0 + (z' - z + 1) ≤ z' - z + 1; omega, by show 0 + (q' - q + 6) ≤ q' - q + 6; omega⟩
  refine jx_callX (A1 := va_A (ia_w cy ad h n) s.heap.size) hrun hS (fun _ _ h => h) (fun _ h => h) (fun E st t hX => hX.2.2) (fun E ce q9 st t H1 locs1 ht hX hS1 hcell hcv hcl => ?_)
  obtain ⟨rfl, ⟨ad', hag, hP1, hD1⟩, -⟩ := hX
  rw [ht] at hP1
  refine vy_catch (own := RL) (name := jxN) (E := jxN) hown ⟨0, 10, 13, 13⟩ [] htab rfl (by decide) (hts2 _ w2) (hts2 _ w3) hcell hcv hcl ?_
  rw [Nat.zero_add, Nat.zero_add]
  show W p l e (ia_rm (d + 7) (z' - z + 1) (q' - q + 6)) s m _ below meth c H1 locs1 _ _ _ (F0 m 13 ls (([.ref 0] : List Value).map (ia_v (fun _ => q9))))
  have hl0 : lv_has ls 5 (ia_lv (fun _ => q9) []) := ⟨hls.1, hls.2.1, fun q hq => by cases hq⟩
  refine ia_loc_ok (st' := []) hx hb dL_jar_13 hl0 rfl (fun ls hls => ?_)
  show W p l e (ia_rm (d + 7) (z' - z + 1) (q' - q + 6)) s m _ below meth c H1 locs1 _ _ _ (F0 m 15 ls (([] : List Value).map (ia_v ad')))
  refine ia_num_ok (st' := [.int 1]) hx hb dL_jar_15 rfl ?_
  exact ia_ret_ok (ret := some .int) hx hb hr hlocks dL_jar_16 rfl hag hP1 hD1 hS1
set_option maxHeartbeats 2000000 in
/-- .. and where it returns, by the pure machine's run of its body -/
theorem jx_fine {P : ia_T} {Ts Xs : List Cond} (G : ia_Good P Ts Xs) (hrN : ia_rN P 13 = RL) (D : va_G) (cy : Nat → Nat) {F f d : Nat} {as : List Value} {v : Option Value} {h h' : Nat → va_E} {n z q n' z' q' : Nat} (hlen : (lg_sl as).length ≤ 5)
    (hc : ia_lp P (ia_call P F d) ia_nx 13 false cL_jar 5 (some .int) f 0 (lv_args 0 as) [] (h, n, z, q) = some (v, h', n', z', q')) : (n ≤ n' ∧ z ≤ z' ∧ q ≤ q') ∧ ∀ (ad : Nat → Nat) (sz : Nat),
    Met l yL_jar (Cond.codeWith yL_jar cL_jar 5 (some .int) [(0, 10, 13, 13)] :: Ts) (ia_rm (d + 1) (z' - z) (q' - q)) (ia_Pc P Ts Xs D cy ad h n sz as) (ia_Qc P D cy ad n (va_A (ia_w cy ad h n) sz) v h' n') (z' - z) (q' - q) (va_A (ia_w cy ad h n) sz) := by
  have hC := ia_sound G l D cy F d
  have hmono : ∀ k as (hp : ia_H) r, ia_call P F d k as hp = some r → hp.2.1 ≤ r.2.2.1 ∧ hp.2.2.1 ≤ r.2.2.2.1 ∧ hp.2.2.2 ≤ r.2.2.2.2 := fun k as hp r hc => (hC k as hp.1 hp.2.1 hp.2.2.1 hp.2.2.2 r.1 r.2.1 r.2.2.1 r.2.2.2.1 r.2.2.2.2 hc).1
  refine ⟨ia_lp_le (fun _ _ _ _ h => by cases h) hmono _ _ _ _ _ _ hc, fun ad sz => ?_⟩
  refine va_MetW (cc := cL_jar) (maxL := 5) (ret := some .int) (hh := [(0, 10, 13, 13)]) (by decide +kernel) rfl ?_
  intro p e s m args below meth c s₁ B hml hv
  obtain ⟨rfl, hsz, hP, hK, hD0, hE, hXs⟩ := hv
  have hx := B.exec
  have hb := B.bytes
  have hr := B.returns
  have hts := atoms_spec (ws := Cond.codeWith yL_jar cL_jar 5 (some .int) [(0, 10, 13, 13)] :: Ts) B.pre
  have hown : s.vm.findClass RL = some m.cls := findClass_of_methodNamed B.named
  have hlocks := B.notSynchronized
  subst hsz
  have hD := hD0.self (sz := s.heap.size)
  have hA : ∀ q : Nat, s.heap.size ≤ q → va_A (ia_w cy ad h n) s.heap.size q := fun q h => Or.inr h
  have hS : va_S (va_A (ia_w cy ad h n) s.heap.size) s.heap s.heap [] := va_S.rf
  have hls := lv_entry (as.map (ia_v ad)) (n := 5) (by rw [ia_sl]; exact hlen)
  rw [lg_entry_eq]
  generalize (lg_sl (as.map (ia_v ad)) ++ List.replicate (5 - (lg_sl (as.map (ia_v ad))).length) Slot.unset).toArray = ls at hls ⊢
  rw [ia_lvargs] at hls
  have := ia_lp_ok (R := ia_rm (d + 1) (z' - z) (q' - q)) (Q := MQ below (ia_Qc P D cy ad n (va_A (ia_w cy ad h n) s.heap.size) v h' n') (as.map (ia_v ad)).toArray s (z' - z) (q' - q) (va_A (ia_w cy ad h n) s.heap.size)) (n0 := n) (z0 := z) (q0 := q) (ad0 := ad) (e := e) (below := below) ⟨Nat.le_refl _, Nat.le_refl _⟩ ⟨Nat.le_refl _, Nat.le_refl _⟩ hx hb hml (fun hi => by cases hi) (fun w hw => (List.mem_append.mp hw).elim (fun q => hts w (List.mem_cons_of_mem _ q)) (fun q => (G.2.2.2.2.2.2.2.2 w q).1 _ _ (hXs w q))) hXs (by rw [hrN]; exact hown) G hK hA hC (fun _ _ _ _ _ _ _ _ _ _ _ h => by cases h) (fun i len pc st ad1 H1 locs1 ls1 hd hs hag hP1 hD1 hS1 => ia_ret_ok hx hb hr hlocks hd hs hag hP1 hD1 hS1) f 0 (lv_args 0 as) [] h n z q hc (Nat.le_refl _) (Nat.le_refl _) (Nat.le_refl _) ad s.heap [] ls ia_ag.rf hP hD hS hE hls
  rw [Nat.sub_self, Nat.sub_self] at this
  exact this
end NI
