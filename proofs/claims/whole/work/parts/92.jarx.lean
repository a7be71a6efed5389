/-! the law's call of its own jar, as the pure machine does it. -/
section NJ
/-- it throws -/
def jxT (P : ia_T) (d : Nat) (st : List Value) (hp : ia_H) (r : List Value × ia_H) : Prop := ∃ (F x o : Nat) (v1 v2 b : Int32) (fs : List Value) (h' : Nat → va_E) (z' q' : Nat), st = [.ref o, .int v2, .int v1, .ref x] ∧ ia_at P hp.1 hp.2.1 x = some (.inr (11, fs)) ∧ ia_call P F d 11016 [.ref x, .int v1] hp = some (some (.int b), h', hp.2.1, z', q') ∧ (b = 0 ∨ v2 < 0 ∨ ¬ v2 ≤ 10) ∧ ia_okh h' hp.2.1 = true ∧ r = ([.int 1], h', hp.2.1, z' + 1, q' + 6)
/-- it returns -/
def jxR (P : ia_T) (d : Nat) (st : List Value) (hp : ia_H) (r : List Value × ia_H) : Prop := ∃ (F f x o : Nat) (v1 v2 w : Int32) (h' : Nat → va_E) (z' q' : Nat), st = [.ref o, .int v2, .int v1, .ref x] ∧ ia_lp P (ia_call P F d) ia_nx 13 false cL_jar 5 (some .int) f 0 (lv_args 0 [.ref x, .int v1, .int v2, .ref o]) [] hp = some (some (.int w), h', hp.2.1, z', q') ∧ ia_okh h' hp.2.1 = true ∧ r = ([.int w], h', hp.2.1, z', q')
noncomputable def jxC {α : Type} (p : α → Prop) (y : Option α) : Option α := @dite (Option α) (∃ r, p r) (Classical.propDecidable _) (fun h => some (Classical.choose h)) (fun _ => y)
theorem jxC_some {α : Type} {p : α → Prop} {y : Option α} {r : α} (h : jxC p y = some r) : p r ∨ y = some r := by
  unfold jxC at h
  by_cases c : ∃ r, p r
  · rw [dif_pos c] at h
    exact Or.inl (Option.some.inj h ▸ Classical.choose_spec c)
  · rw [dif_neg c] at h
    exact Or.inr h
theorem jxC_pos {α : Type} {p : α → Prop} {y : Option α} {r : α} (h : p r) (u : ∀ r', p r' → r' = r) : jxC p y = some r := by
  unfold jxC
  rw [dif_pos ⟨r, h⟩]
  exact congrArg some (u _ (Classical.choose_spec (⟨r, h⟩ : ∃ r, p r)))
theorem jxC_neg {α : Type} {p : α → Prop} {y : Option α} (h : ∀ r, ¬ p r) : jxC p y = y := by
  unfold jxC
  rw [dif_neg (fun ⟨r, q⟩ => h r q)]
noncomputable def jarX (P : ia_T) (d : Nat) (pc : Nat) (st : List Value) (hp : ia_H) : Option (List Value × ia_H) := if pc = 390 then jxC (jxT P d st hp) (jxC (jxR P d st hp) none) else none
theorem jarX_ne {P : ia_T} {d : Nat} : ∀ pc st hp, pc ≠ 390 → jarX P d pc st hp = none := fun pc st hp h => if_neg h
variable {p : Program} {l : Launch} {e : Env} {R : Room} {s : State} {m : MethodId} {args : Array Value} {below : List Frame} {meth : Method} {c : Code} {Q : State → Prop}
set_option maxHeartbeats 2000000 in
/-- the machine does so -/
theorem jx_hX {P : ia_T} {Ts Xs : List Cond} {D : va_G} {cy : Nat → Nat} {A : Nat → Prop} {nL d : Nat} (G : ia_Good P Ts Xs) (J : jxG P Ts Xs) (hl : l.stackTraces = false) (hR : d + 8 ≤ R.frames ∧ 60 * (d + 8) ≤ R.locals) (hx : p.tables.exec = Jvm.exec) (hb : c.code = cL_law) (hml : c.maxLocals = nL)
    (hts : ∀ w ∈ Ts ++ Xs, w.before args s = true) (hXs : ∀ w ∈ Xs, w.before #[] s = true) (hown : s.vm.findClass RL = some m.cls) (hK : va_K D (ia_cl P) (ia_tys cy) s) (hA : ∀ q, s.heap.size ≤ q → A q)
    (hU : vx_Zq Bundle.tN "UNASSIGNED_STACK" Bundle.steD A s s.heap) (hN : vx_Zq Bundle.tN "SUPPRESSED_SENTINEL" Bundle.listD A s s.heap) (hDs : ∀ w ∈ jxD, w.before #[] s = true) :
    ∀ (pc : Nat) (st : List Value) (h : Nat → va_E) (n z q : Nat) (st' : List Value) (h1 : Nat → va_E) (n1 z1 q1 : Nat), jarX P d pc st (h, n, z, q) = some (st', h1, n1, z1, q1) → (n1 = n ∧ z ≤ z1 ∧ q ≤ q1) ∧ ∀ (ad : Nat → Nat) (H : Heap) (locs : List Loc) (ls : Array Slot) (cells slots : Nat), ls.size = nL → va_P D (ia_cl P) (ia_w cy ad h n) H → va_D A (ia_w cy ad h n) → va_S A s.heap H locs → ia_E P (Ts ++ Xs) ad A s s.heap → cells + (z1 - z) ≤ R.cells → slots + (q1 - q) ≤ R.slots → (∀ (H1 : Heap) (locs1 : List Loc), va_P D (ia_cl P) (ia_w cy ad h1 n) H1 → va_D A (ia_w cy ad h1 n) → va_S A s.heap H1 locs1 → W p l e R s m args below meth c H1 locs1 (cells + (z1 - z)) (slots + (q1 - q)) Q (F0 m (pc + 3) ls (st'.map (ia_v ad)))) → W p l e R s m args below meth c H locs cells slots Q (F0 m pc ls (st.map (ia_v ad))) := by
  intro pc st h n z q st' h1 n1 z1 q1 hj
  unfold jarX at hj
  by_cases c0 : pc = 390
  · rw [if_pos c0] at hj
    subst c0
    rcases jxC_some hj with ⟨F, x, o, v1, v2, b, fs, h', z', q', rfl, ha, hc, hbb, hok, er⟩ | hj
    · cases er
      have hle := (ia_sound G l D cy F d _ _ _ _ _ _ _ _ _ _ _ hc).1
      refine ⟨⟨rfl, by omega, by omega⟩, fun ad H locs ls cells slots hsz hP hD hS hE hc1 hc2 kk => ?_⟩
      have hFc := ia_in_A (D := D) (cl := ia_cl P) hD hS hA
      have hM := jx_ljar (l := l) (o := o) G J hl D cy ha hc hbb ad H.size
      have hrun := vx_runSW (R := R) (e := e) (below := below) (meth := meth) (locs := locs) (cells := cells) (slots := slots) (g := F0 m 390 ls (([.ref o, .int v2, .int v1, .ref x] : List Value).map (ia_v ad))) (As := ([.ref x, .int v1, .int v2, .ref o] : List Value).map (ia_v ad)) (rest := []) (own := RL) (index := 38) (n := 4) (bytes := cL_jar) (maxL := 5) (ret := some .int) (hh := [(0, 10, 13, 13)]) ⟨hx, hb, hml, hown, hts⟩ hM
        (vx_cwSW 4 hts J.2.2.2.2.2.2.2.2.2 rfl rfl rfl ⟨by decide +kernel, by decide +kernel, by decide +kernel⟩ ⟨by show d + 7 + 1 ≤ R.frames; omega, by show 8 + (5 + 11) + 60 * (d + 7) ≤ R.locals; omega⟩) ⟨jx_blind G.2.2.2.2.2.2.2.2, jx_ent G.2.2.2.2.2.2.2.2 hXs hK hP hD hS hA hE hU hN hDs⟩ rfl rfl hsz rfl (lv_room (Nat.le_of_ble_eq_true rfl)) dL_law_390 ⟨by omega, by omega⟩
      refine ia_callW hrun hS (fun q _ h => hFc q h) hFc (fun w t H1 locs1 ht hpost hS1 => ?_)
      obtain ⟨ad', rfl, hag, hP1, hD1⟩ := hpost
      rw [ht] at hP1
      rw [hag.w hok] at hP1 hD1
      have := kk H1 locs1 hP1 (hD1.weaken (fun k q _ h => hFc q.1 h)) hS1
      rw [show z' + 1 - z = z' - z + 1 by omega, show q' + 6 - q = q' - q + 6 by omega] at this
      exact this
    · rcases jxC_some hj with ⟨F, f, x, o, v1, v2, w, h', z', q', rfl, hc, hok, er⟩ | hj
      · cases er
        obtain ⟨hle, hM⟩ := jx_fine (l := l) G J.2.2.2.2.2.1 D cy (Nat.le_of_ble_eq_true rfl) hc
        refine ⟨⟨rfl, hle.2.1, hle.2.2⟩, fun ad H locs ls cells slots hsz hP hD hS hE hc1 hc2 kk => ?_⟩
        have hFc := ia_in_A (D := D) (cl := ia_cl P) hD hS hA
        have hrun := vx_runSW (R := R) (e := e) (below := below) (meth := meth) (locs := locs) (cells := cells) (slots := slots) (g := F0 m 390 ls (([.ref o, .int v2, .int v1, .ref x] : List Value).map (ia_v ad))) (As := ([.ref x, .int v1, .int v2, .ref o] : List Value).map (ia_v ad)) (rest := []) (own := RL) (index := 38) (n := 4) (bytes := cL_jar) (maxL := 5) (ret := some .int) (hh := [(0, 10, 13, 13)]) ⟨hx, hb, hml, hown, hts⟩ (hM ad H.size)
          (vx_cwSW 4 hts J.2.2.2.2.2.2.2.2.2 rfl rfl rfl ⟨by decide +kernel, by decide +kernel, by decide +kernel⟩ ⟨by show d + 1 + 1 ≤ R.frames; omega, by show 8 + (5 + 11) + 60 * (d + 1) ≤ R.locals; omega⟩) ⟨ia_blind G.2.2.2.2.2.2.2.2, ia_ent G.2.2.2.2.2.2.2.2 hXs hK hP hD hS hA hE⟩ rfl rfl hsz rfl (lv_room (Nat.le_of_ble_eq_true rfl)) dL_law_390 ⟨by omega, by omega⟩
        refine ia_callW hrun hS (fun q _ h => hFc q h) hFc (fun w t H1 locs1 ht hpost hS1 => ?_)
        obtain ⟨ad', rfl, hag, hP1, hD1⟩ := hpost
        rw [ht] at hP1
        rw [hag.w hok] at hP1 hD1
        exact kk H1 locs1 hP1 (hD1.weaken (fun k q _ h => hFc q.1 h)) hS1
      · cases hj
  · rw [if_neg c0] at hj
    cases hj
/-- the tables of this program -/
theorem jx_words : (Cond.classLink RX11 182 jxN :: Cond.initialized jxN :: vx_at0 RX11 184 jxN jxS).all (fun w => decide (w ∈ lw_tbl) && (goodWord w || ia_isX w || jxIsD w) && vx_ot w) = true := by decide +kernel
theorem jx_words2 : ([Cond.classLink RL 13 jxN, Cond.castable jxN jxN] : List Cond).all (fun w => decide (w ∈ lw_tbl) && (goodWord w || ia_isX w)) = true := by decide +kernel
theorem jx_words3 : ([Cond.methodLink RL 38 yL_jar, Cond.static yL_jar, Cond.initialized yL_jar.cls, Cond.codeWith yL_jar cL_jar 5 (some .int) [(0, 10, 13, 13)]] : List Cond).all (fun w => decide (w ∈ lw_tbl) && goodWord w) = true := by decide +kernel
theorem jx_in {w : Cond} (h1 : w ∈ lw_tbl) (h2 : (goodWord w || ia_isX w) = true) : w ∈ ia_Ts ++ ia_Xs := by
  rw [Bool.or_eq_true] at h2
  exact h2.elim (fun q => List.mem_append_left _ (List.mem_filter.mpr ⟨h1, q⟩)) (fun q => List.mem_append_right _ (List.mem_filter.mpr ⟨h1, q⟩))
theorem jx_G0 (L : Nat) (xs : Nat → Int32) (fm : Bool) : jxG (ia_P0 L xs fm) ia_Ts ia_Xs := by
  refine ⟨tM_11_178, mt_11016, rfl, tM_13_7, mt_11058, rfl, fun w hw => ?_, ?_, ?_, ?_⟩
  · have := List.all_eq_true.mp jx_words w hw
    rw [Bool.and_eq_true, Bool.and_eq_true, Bool.or_eq_true, decide_eq_true_eq] at this
    exact ⟨this.1.2.elim (fun q => Or.inl (jx_in this.1.1 q)) (fun q => Or.inr (List.mem_filter.mpr ⟨this.1.1, q⟩)), this.2⟩
  · have := List.all_eq_true.mp jx_words2 (Cond.classLink RL 13 jxN) List.mem_cons_self
    simp only [Bool.and_eq_true, decide_eq_true_eq] at this
    exact jx_in this.1 this.2
  · have := List.all_eq_true.mp jx_words2 (Cond.castable jxN jxN) (List.mem_cons_of_mem _ List.mem_cons_self)
    simp only [Bool.and_eq_true, decide_eq_true_eq] at this
    exact jx_in this.1 this.2
  · have k3 : ∀ w ∈ ([Cond.methodLink RL 38 yL_jar, Cond.static yL_jar, Cond.initialized yL_jar.cls, Cond.codeWith yL_jar cL_jar 5 (some .int) [(0, 10, 13, 13)]] : List Cond), w ∈ ia_Ts := fun w hw => by
      have := List.all_eq_true.mp jx_words3 w hw
      simp only [Bool.and_eq_true, decide_eq_true_eq] at this
      exact List.mem_filter.mpr this
    have kT : ∀ w ∈ ia_Ts, w ∈ ia_Ts ++ ia_Xs ∧ ((w.onTables && w.keeps) = true ∨ ∃ ty, w = .arrayClass ty) := fun w hw => ⟨List.mem_append_left _ hw, good_of_word (List.mem_filter.mp hw).2⟩
    intro w hw
    have hw : w ∈ ([Cond.methodLink RL 38 yL_jar, Cond.static yL_jar, Cond.initialized yL_jar.cls, Cond.codeWith yL_jar cL_jar 5 (some .int) [(0, 10, 13, 13)]] : List Cond) ++ ia_Ts := hw
    rcases List.mem_append.mp hw with hw | hw
    · exact kT w (k3 w hw)
    · exact kT w hw
end NJ
