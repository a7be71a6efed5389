section ID
variable {p : Program} {l : Launch} {e : Env} {R : Room} {s : State} {m : MethodId} {args : Array Value} {below : List Frame} {meth : Method} {c : Code} {H : Heap} {locs : List Loc} {cells slots : Nat} {Q : State → Prop} {cc : ByteArray}
/-- what the tables of a program must say, on -/
def ia_gC (P : ia_T) (Ts : List Cond) : Prop := (∀ own x ci q, ia_tC P own x = some ci → (ia_cl P)[ci]? = some q → (∀ w ∈ u_ws q.1 q.2.1 q.2.2, w ∈ Ts) ∧ Cond.classLink (ia_rN P own) x q.1 ∈ Ts ∧ Cond.instantiable q.1 q.2.2 ∈ Ts ∧ Cond.initialized q.1 ∈ Ts ∧ (∀ j, j < q.2.2 → parseFieldDescriptor (q.2.1 j).2.2.1 = some (ia_ty P ci j))) ∧
  (∀ own x, ia_tC P own x = some 950 → Cond.classLink (ia_rN P own) x (FieldType.array .int).toString ∈ Ts) ∧
  Cond.arrayClass .int ∈ Ts ∧ Cond.arrayClass .byte ∈ Ts ∧ Cond.arrayClass .boolean ∈ Ts ∧ Cond.arrayClass .long ∈ Ts ∧ Cond.arrayOver (.array .int) ∈ Ts
def ia_gM (P : ia_T) (Ts : List Cond) : Prop := ∀ own x k kd, ia_tM P own x = some (k, kd) →
  (kd = 0 → ∀ ck y cc nL ret np, ia_mt P k = some (ck, y, cc, nL, ret, np) → Cond.methodLink (ia_rN P own) x y ∈ Ts ∧ Cond.static y ∈ Ts ∧ Cond.initialized y.cls ∈ Ts) ∧
  (kd = 1 → ∀ ck y cc nL ret np, ia_mt P k = some (ck, y, cc, nL, ret, np) → Cond.methodLink (ia_rN P own) x y ∈ Ts ∧ Cond.instanceMethod y ∈ Ts ∧ Cond.selects y.cls y y ∈ Ts ∧ Cond.initialized y.cls ∈ Ts) ∧
  (kd = 2 → ∀ ck y cc nL ret np, ia_mt P k = some (ck, y, cc, nL, ret, np) → Cond.methodLink (ia_rN P own) x y ∈ Ts ∧ Cond.instanceMethod y ∈ Ts ∧ Cond.initialized y.cls ∈ Ts ∧ y.name = "<init>" ∧ ret = none) ∧
  (kd = 3 → ∀ ck y cc nL ret np, ia_mt P k = some (ck, y, cc, nL, ret, np) → ∃ host, Cond.methodLinkNest (ia_rN P own) x y host ∈ Ts ∧ Cond.static y ∈ Ts ∧ Cond.initialized y.cls ∈ Ts) ∧
  (kd = 4 → ∀ ck y cc nL ret np, ia_mt P k = some (ck, y, cc, nL, ret, np) → ∃ host, Cond.methodLinkNest (ia_rN P own) x y host ∈ Ts ∧ Cond.instanceMethod y ∈ Ts ∧ Cond.initialized y.cls ∈ Ts ∧ y.name = "<init>" ∧ ret = none) ∧
  (kd = 6 → Cond.methodLink (ia_rN P own) x objectInit ∈ Ts ∧ Cond.instanceMethod objectInit ∈ Ts ∧ Cond.code objectInit ⟨#[0xb1]⟩ 1 none ∈ Ts) ∧
  (kd = 8 → Cond.methodLink (ia_rN P own) x ⟨(FieldType.array .int).toString, "clone", "()Ljava/lang/Object;"⟩ ∈ Ts ∧ Cond.sameMethod (FieldType.array .int).toString "java/lang/Object" "clone" "()Ljava/lang/Object;" ∈ Ts ∧ Cond.native ⟨"java/lang/Object", "clone", "()Ljava/lang/Object;"⟩ ∈ Ts ∧ Cond.instanceMethod ⟨"java/lang/Object", "clone", "()Ljava/lang/Object;"⟩ ∈ Ts ∧ Cond.selects (FieldType.array .int).toString ⟨(FieldType.array .int).toString, "clone", "()Ljava/lang/Object;"⟩ ⟨"java/lang/Object", "clone", "()Ljava/lang/Object;"⟩ ∈ Ts ∧ Cond.castable (FieldType.array .int).toString "java/lang/Cloneable" ∈ Ts) ∧
  (kd = 7 → Cond.methodLink (ia_rN P own) x arraycopyName ∈ Ts ∧ Cond.native arraycopyName ∈ Ts ∧ Cond.static arraycopyName ∈ Ts ∧ Cond.initialized "java/lang/System" ∈ Ts) ∧
  (kd = 10 → Cond.methodLink (ia_rN P own) x Lib.Math.max.name ∈ Ts ∧ Cond.static Lib.Math.max.name ∈ Ts ∧ Cond.initialized "java/lang/Math" ∈ Ts ∧ Cond.code Lib.Math.max.name Lib.Math.max.code 2 (some .int) ∈ Ts) ∧
  (kd = 11 → Cond.methodLink (ia_rN P own) x Lib.Math.min.name ∈ Ts ∧ Cond.static Lib.Math.min.name ∈ Ts ∧ Cond.initialized "java/lang/Math" ∈ Ts ∧ Cond.code Lib.Math.min.name Lib.Math.min.code 2 (some .int) ∈ Ts) ∧
  (kd = 12 → Cond.methodLink (ia_rN P own) x Lib.Math.abs.name ∈ Ts ∧ Cond.static Lib.Math.abs.name ∈ Ts ∧ Cond.initialized "java/lang/Math" ∈ Ts ∧ Cond.code Lib.Math.abs.name Lib.Math.abs.code 1 (some .int) ∈ Ts) ∧
  (kd = 13 → Cond.methodLink (ia_rN P own) x Lib.MathLoose.max_long.x ∈ Ts ∧ Cond.static Lib.MathLoose.max_long.x ∈ Ts ∧ Cond.initialized "java/lang/Math" ∈ Ts ∧ Cond.code Lib.MathLoose.max_long.x Lib.MathLoose.max_long.code 4 (some .long) ∈ Ts) ∧
  (kd = 14 → Cond.methodLink (ia_rN P own) x Lib.MathLoose.min_long.x ∈ Ts ∧ Cond.static Lib.MathLoose.min_long.x ∈ Ts ∧ Cond.initialized "java/lang/Math" ∈ Ts ∧ Cond.code Lib.MathLoose.min_long.x Lib.MathLoose.min_long.code 4 (some .long) ∈ Ts)
def ia_gm (P : ia_T) (Ts : List Cond) : Prop := ∀ k own y cc nL ret np, ia_mt P k = some (own, y, cc, nL, ret, np) → plainName y.cls = true ∧ y.cls = ia_rN P own ∧ Cond.code y cc nL ret ∈ Ts ∧ nL ≤ 40 ∧ y.cls ≠ "java/lang/invoke/MethodHandle" ∧ y.cls ≠ "java/lang/invoke/VarHandle" ∧ (parseMethodDescriptor y.desc).map (fun d => d.parameters.length) = some np
/-- words that a contract can't ask among its own: they are asked of the state -/
def ia_XOK (Xs : List Cond) : Prop := ∀ w ∈ Xs, (∀ (a : Array Value) (U : State), w.before #[] U = true → w.before a U = true) ∧ (∀ (s U : State), s.WarmedH U.vm → w.before #[] s = true → w.before #[] U = true) ∧ (∀ (u U : State), u.vm = U.vm → w.before #[] u = true → w.before #[] U = true)
def ia_Good (P : ia_T) (Ts Xs : List Cond) : Prop := ia_gF P (Ts ++ Xs) ∧ ia_gK P (Ts ++ Xs) ∧ ia_gC P (Ts ++ Xs) ∧ ia_gM P (Ts ++ Xs) ∧ ia_gm P Ts ∧ (∀ w ∈ Ts, goodWord w = true) ∧ (∀ (ci : Nat) (q : vw_C), (ia_cl P)[ci]? = some q → q.1 = ia_rN P ci) ∧ (ia_cl P).length ≤ 900 ∧ ia_XOK Xs
theorem ia_good_in {P : ia_T} {Ts Xs : List Cond} (G : ia_Good P Ts Xs) {w : Cond} (hw : w ∈ Ts) : GoodIn (Ts ++ Xs) (w :: Ts) := fun v hv => by
  have h : v ∈ Ts := (List.mem_cons.mp hv).elim (fun q => q ▸ hw) id
  exact ⟨List.mem_append_left _ h, good_of_word (G.2.2.2.2.2.1 v h)⟩
theorem ia_nar_c {v : Int32} (h : 0 ≤ v.toInt ∧ v.toInt ≤ 65535) : narrow .char (.int v) = .int v := by
  obtain ⟨j, hj, rfl⟩ := vp_in_of (x := v) (n := 65536) (vp_in_iff.mpr ⟨h.1, by omega⟩) (by decide)
  exact (pk_charN hj).1
/-- a call, whatever it gives back -/
def ia_Q (post : Option Value → State → Prop) (A : Nat → Prop) : Array Value → State → Outcome → State → Prop := fun _ st oc t => (∃ v, oc = .returned v ∧ post v t) ∧ va_F A st t
theorem ia_callW {pc : Nat} {ls : Array Slot} {rest st0 : List Value} {a : Array Value} {A0 A1 : Nat → Prop} {H0 : Heap} {mc ms : Nat} {free : Addr → Prop} {post : Option Value → State → Prop} (hr : va_Run p l e R s m args below meth c H locs cells slots mc ms (F0 m pc ls st0) rest (ia_Q post A1 a) free) (hS : va_S A0 H0 H locs) (hA : ∀ q, q < H.size → A1 q → A0 q) (hf : ∀ q, free q → A0 q)
    (kk : ∀ (v : Option Value) (t : State) (H1 : Heap) (locs1 : List Loc), t.heap = H1 → post v t → va_S A0 H0 H1 locs1 → W p l e R s m args below meth c H1 locs1 (cells + mc) (slots + ms) Q (F0 m (pc + 3) ls (v.toList ++ rest))) : W p l e R s m args below meth c H locs cells slots Q (F0 m pc ls st0) := by
  intro T hT X
  obtain ⟨v, st₀, t, T', L, h0, X', hL, e1, e2, ⟨⟨v', hv, hp⟩, hz, hk⟩, st⟩ := hr T hT X
  cases hv
  rw [h0] at hz hk
  obtain ⟨t2, a1, b1⟩ := kk v t T'.heap (locs ++ L) e1.symm hp
    ⟨Nat.le_trans hS.1 (by rw [e1]; exact hz), fun q h1 h2 => by rw [e1, hk q (Nat.lt_of_lt_of_le h1 hS.1) (fun z => h2 (hA q (Nat.lt_of_lt_of_le h1 hS.1) z))]; exact hS.2.1 q h1 h2, fun q hq => by
      rcases List.mem_append.mp hq with h | h
      · exact hS.2.2 q h
      · exact hf _ (hL q h)⟩ T' rfl X'
  exact ⟨t2, st t2 a1, b1⟩
def ia_rm (d mc ms : Nat) : Room := { frames := d, cells := mc, slots := ms, locals := 60 * d }
/-- a method's start, and its end -/
def ia_Pc (P : ia_T) (Ts Xs : List Cond) (D : va_G) (cy ad : Nat → Nat) (h : Nat → va_E) (n sz : Nat) (as : List Value) : Array Value → State → Prop := va_Pc (as.map (ia_v ad)) (fun U => U.heap.size = sz ∧ va_P D (ia_cl P) (ia_w cy ad h n) U.heap ∧ va_K D (ia_cl P) (ia_tys cy) U ∧ va_D (fun _ => True) (ia_w cy ad h n) ∧ ia_E P (Ts ++ Xs) ad (va_A (ia_w cy ad h n) sz) U U.heap ∧ ∀ w ∈ Xs, w.before #[] U = true)
def ia_Qc (P : ia_T) (D : va_G) (cy ad : Nat → Nat) (n : Nat) (A : Nat → Prop) (v : Option Value) (h' : Nat → va_E) (n' : Nat) : Array Value → State → Outcome → State → Prop := ia_Q (fun w t => ∃ ad', w = v.map (ia_v ad') ∧ ia_ag n ad ad' ∧ va_P D (ia_cl P) (ia_w cy ad' h' n') t.heap ∧ va_D A (ia_w cy ad' h' n')) A
theorem ia_E.same {P : ia_T} {Ts : List Cond} {ad : Nat → Nat} {A : Nat → Prop} {u U : State} {H1 : Heap} (h : ia_E P Ts ad A u H1) (hv : U.vm = u.vm) : ia_E P Ts ad A U H1 := by
  have hal : u.vm.Alike U.vm := by rw [hv]; exact Vm.Alike.refl _
  obtain ⟨h1, h2, h3, h4, h5, h6, h7⟩ := h
  refine ⟨fun a N f ha hc => (h1 a N f ha hc).moved hal, fun a N f ha hc => (h2 a N f ha hc).moved hal, fun own x v hv => ?_, fun a ci fs ha hc => ⟨(h4 a ci fs ha hc).1, fun own x k v hf hv => ?_⟩, fun a ci fs ha hc => (h5 a ci fs ha hc).moved hal, fun own x a hv2 => ?_, h7⟩
  · obtain ⟨h0, C, n, d, host, hz, hw⟩ := h3 own x v hv
    exact ⟨h0, C, n, d, host, hz.moved hal, hw⟩
  · obtain ⟨h0, o, nm, d, hz, hw⟩ := (h4 a ci fs ha hc).2 own x k v hf hv
    exact ⟨h0, o, nm, d, hz.moved hal, hw⟩
  · obtain ⟨h0, tx, h⟩ := h6 own x a hv2
    exact ⟨h0, tx, h.same hv⟩
theorem ia_blind {P : ia_T} {Ts Xs : List Cond} (hX : ia_XOK Xs) {D : va_G} {cy ad : Nat → Nat} {h : Nat → va_E} {n sz : Nat} {as : List Value} : FrameBlind (ia_Pc P Ts Xs D cy ad h n sz as) := fun a U g mk q => by
  obtain ⟨q0, q1, qP, qK, qD, qE, qX⟩ := q
  exact ⟨q0, q1, qP, va_K.moved (u := U) (U := U.calling g mk a) (Vm.Alike.refl U.vm) qK, qD, qE.same rfl, fun w hw => (hX w hw).2.2 U _ rfl (qX w hw)⟩
theorem ia_ent {P : ia_T} {Ts Xs : List Cond} (hX : ia_XOK Xs) (hXs : ∀ w ∈ Xs, w.before #[] s = true) {D : va_G} {cy ad : Nat → Nat} {A : Nat → Prop} {h : Nat → va_E} {n : Nat} {as : List Value} (hK : va_K D (ia_cl P) (ia_tys cy) s) (hP : va_P D (ia_cl P) (ia_w cy ad h n) H) (hD : va_D A (ia_w cy ad h n)) (hS : va_S A s.heap H locs) (hA : ∀ q, s.heap.size ≤ q → A q) (hE : ia_E P (Ts ++ Xs) ad A s s.heap) : ∀ U : State, U.heap = H → s.WarmedH U.vm → ia_Pc P Ts Xs D cy ad h n H.size as (as.map (ia_v ad)).toArray U := fun U hU hW => by
  refine ⟨rfl, by rw [hU], by rw [hU]; exact hP, va_K.moved hW.alike hK, hD.weaken (fun _ _ _ _ => trivial), ?_, fun w hw => (hX w hw).2.1 s U hW (hXs w hw)⟩
  rw [hU]
  refine hE.to hS hW (fun q hq => ?_)
  rcases hq with ⟨k, e, hq⟩ | hq
  · exact hD.2 k (q, e) hq
  · exact hA q (Nat.le_trans hS.1 hq)
theorem ia_in_A {D : va_G} {cl : List vw_C} {A : Nat → Prop} {ws : va_W} {H0 : Heap} (hD : va_D A ws) (hS : va_S A H0 H locs) (hA : ∀ q, H0.size ≤ q → A q) : ∀ q, va_A ws H.size q → A q := fun q hq => by
  rcases hq with ⟨k, e, hq⟩ | hq
  · exact hD.2 k (q, e) hq
  · exact hA q (Nat.le_trans hS.1 hq)
end ID
