section IE
variable {p : Program} {l : Launch} {e : Env} {R : Room} {s : State} {m : MethodId} {args : Array Value} {below : List Frame} {meth : Method} {c : Code} {H : Heap} {locs : List Loc} {cells slots : Nat} {Q : State → Prop} {cc : ByteArray}
theorem ia_oks_st {n : Nat} {ad ad' : Nat → Nat} {lv : List (Nat × Value)} {st : List Value} (h : ia_ag n ad ad') (hk : ia_oks n lv st = true) : ia_lv ad' lv = ia_lv ad lv ∧ st.map (ia_v ad') = st.map (ia_v ad) := by
  simp only [ia_oks, Bool.and_eq_true] at hk
  refine ⟨List.map_congr_left (fun q hq => ?_), h.vs hk.2⟩
  rw [h.v (List.all_eq_true.mp hk.1 q hq)]
theorem ia_cyI {D : va_G} {cl : List vw_C} {cy : Nat → Nat} {t cA : Nat} {ty : FieldType} (hK : va_K D cl (ia_tys cy) s) (hK' : va_K D cl (ia_tys cy ++ [(cA, ty)]) s) (ht : (ia_tys cy)[t]? = some (cy t, ty)) (hty : ∀ C, ty ≠ .object C) : cA = cy t := by
  have h1 := (hK'.2 5 (cA, ty) rfl).2
  have h2 := (hK.2 t _ ht).2
  cases ty with
  | object C => exact absurd rfl (hty C)
  | _ => exact Option.some.inj (h1.symm.trans h2)
theorem ia_none {cy ad : Nat → Nat} {N : Nat} : ia_e cy ad (.inl (4, N, .inr (.inr (.inr (.inr (fun _ => none)))))) = .inl (cy 4, N, .inr (.inr (.inr (.inr (fun _ => none))))) := by
  show (Sum.inl (cy 4, N, .inr (.inr (.inr (.inr (fun j => if j < N then (none : Option Nat).map ad else none))))) : va_E) = _
  have : (fun j => if j < N then (none : Option Nat).map ad else none) = (fun _ => none) := by funext j; simp
  rw [this]
theorem ia_newq {D : va_G} {cl : List vw_C} {A : Nat → Prop} {H0 : Heap} {cy : Nat → Nat} {ws : va_W} {own : String} {index pc : Nat} {j : Int32} {rest : List Value} {ls : Array Slot} (hx : p.tables.exec = Jvm.exec) (hb : c.code = cc) (hown : s.vm.findClass own = some m.cls) (hcl : (Cond.classLink own index (FieldType.array .int).toString).before args s = true) (hov : (Cond.arrayOver (.array .int)).before args s = true) (hK : va_K D cl (ia_tys cy) s) (hP : va_P D cl ws H) (hD : va_D A ws) (hS : va_S A H0 H locs) (hA : ∀ q, H0.size ≤ q → A q)
    (j1 : ¬ j < 0) (j2 : j.toNatClampNeg * 4 ≤ 536870912) (hc1 : cells + 1 ≤ R.cells) (hc2 : slots + j.toNatClampNeg ≤ R.slots) (hd : decode cc pc = .ok (.anewarray index, 3))
    (kk : ∀ (q : Nat) (H1 : Heap), va_P D cl (ws ++ [(q, .inl (cy 4, j.toNatClampNeg, .inr (.inr (.inr (.inr (fun _ => none))))))]) H1 → va_D A (ws ++ [(q, .inl (cy 4, j.toNatClampNeg, .inr (.inr (.inr (.inr (fun _ => none))))))]) → va_S A H0 H1 locs → W p l e R s m args below meth c H1 locs (cells + 1) (slots + j.toNatClampNeg) Q (F0 m (pc + 3) ls (.ref q :: rest))) : W p l e R s m args below meth c H locs cells slots Q (F0 m pc ls (.int j :: rest)) := by
  refine W.anewA (t := .int) hx hb hown hcl hov rfl hd rfl j1 j2 hc1 hc2 fun cA kA comp f1 f2 f3 f4 => ?_
  have hcA : cA = cy 4 := Option.some.inj (f1.symm.trans (hK.2 4 _ rfl).2)
  subst hcA
  generalize hH1 : H.push ({ cls := cy 4, slots := Array.replicate j.toNatClampNeg .null, vm := .none } : Cell) = H1
  have z1 : H1.size = H.size + 1 := by rw [← hH1, Array.size_push]
  have e1 : H1[H.size]? = some (arrV (cy 4) j.toNatClampNeg (fun _ => .null)) := by rw [← hH1, Array.getElem?_push_size, ← arrV_new]
  have o1 : ∀ q : Nat, q < H.size → H1[q]? = H[q]? := fun q hq => by rw [← hH1, Array.getElem?_push, if_neg (Nat.ne_of_lt hq)]
  have hk : ∀ (k : Nat) (x : Nat × va_E), ws[k]? = some x → H1[x.1]? = H[x.1]? := fun k x hx => o1 x.1 ((hP k x hx).lt)
  refine kk H.size H1 ((hP.kept hk).app (fun k x hx => ?_)) (hD.push hP rfl (hA _ hS.1)) ⟨Nat.le_trans hS.1 (by omega), fun x h1 h2 => (o1 x (Nat.lt_of_lt_of_le h1 hS.1)).trans (hS.2.1 x h1 h2), hS.2.2⟩
  have hz : k < 1 := (List.getElem?_eq_some_iff.mp hx).1
  rw [show k = 0 by omega] at hx
  cases hx
  exact e1
set_option maxHeartbeats 1000000 in
theorem ia_mk_ok {P : ia_T} {Ts : List Cond} {D : va_G} {cy ad : Nat → Nat} {A : Nat → Prop} {own len pc n nL k : Nat} {h : Nat → va_E} {i : Instr} {lv : List (Nat × Value)} {st st' : List Value} {x : va_E} {ls : Array Slot} (hx : p.tables.exec = Jvm.exec) (hb : c.code = cc) (hd : decode cc pc = .ok (i, len))
    (hts : ∀ w ∈ Ts, w.before args s = true) (hown : s.vm.findClass (ia_rN P own) = some m.cls) (gC : ia_gC P Ts) (hK : va_K D (ia_cl P) (ia_tys cy) s) (hP : va_P D (ia_cl P) (ia_w cy ad h n) H) (hD : va_D A (ia_w cy ad h n)) (hS : va_S A s.heap H locs) (hA : ∀ q, s.heap.size ≤ q → A q)
    (hs : ia_mk P own i len st n = some (st', x, k)) (hok : ia_okh h n = true) (hos : ia_oks n lv st'.tail = true) (hn : n < 1000000) (hl : lv_has ls nL (ia_lv ad lv)) (hc1 : cells + 1 ≤ R.cells) (hc2 : slots + k ≤ R.slots)
    (kk : ∀ (ad' : Nat → Nat) (H1 : Heap), ia_ag n ad ad' → va_P D (ia_cl P) (ia_w cy ad' (va_up h n x) (n + 1)) H1 → va_D A (ia_w cy ad' (va_up h n x) (n + 1)) → va_S A s.heap H1 locs → lv_has ls nL (ia_lv ad' lv) → W p l e R s m args below meth c H1 locs (cells + 1) (slots + k) Q (F0 m (pc + len) ls (st'.map (ia_v ad')))) : W p l e R s m args below meth c H locs cells slots Q (F0 m pc ls (st.map (ia_v ad))) := by
  have key : ∀ (q : Nat) (H1 : Heap) (r : List Value), st' = .ref n :: r → (∀ ad', ia_e cy ad' x = ia_e cy ad x) → va_P D (ia_cl P) (ia_w cy ad h n ++ [(q, ia_e cy ad x)]) H1 → va_D A (ia_w cy ad h n ++ [(q, ia_e cy ad x)]) → va_S A s.heap H1 locs → W p l e R s m args below meth c H1 locs (cells + 1) (slots + k) Q (F0 m (pc + len) ls (.ref q :: r.map (ia_v ad))) := by
    intro q H1 r hr he hP1 hD1 hS1
    have hag : ia_ag n ad (va_up ad n q) := fun z hz => va_up_ne _ _ (by omega)
    rw [ia_w_push hok hn he] at hP1 hD1
    obtain ⟨e1, e2⟩ := ia_oks_st hag hos
    subst hr
    have := kk (va_up ad n q) H1 hag hP1 hD1 hS1 (by rw [e1]; exact hl)
    have e2 : r.map (ia_v (va_up ad n q)) = r.map (ia_v ad) := e2
    rw [List.map_cons, e2] at this
    have e3 : ia_v (va_up ad n q) (.ref n) = .ref q := by show Value.ref (va_up ad n q n) = _; rw [va_up_self]
    rw [e3] at this
    exact this
  have hnum : ∀ {j : Int32}, 0 ≤ j.toInt ∧ j.toInt ≤ 100000 → ¬ j < 0 ∧ j.toNatClampNeg ≤ 100000 := fun {j} hj => by
    refine ⟨fun z => ?_, ?_⟩
    · rw [Int32.lt_iff_toInt_lt, Int32.toInt_zero] at z; omega
    · have : j.toNatClampNeg = j.toInt.toNat := rfl
      omega
  unfold ia_mk at hs
  split at hs
  · split at hs
    · next ci hc =>
      split at hs
      · next q hq =>
        cases hs
        obtain ⟨hin, g1, g2, g3, g4⟩ := gC.1 own _ ci q hc hq
        refine va_new hx hb hts hin (ia_ty P ci) g4 hown (hts _ g1) (hts _ g2) (hts _ g3) hK hP hD hS hA hq (fs := ((List.range q.2.2).map (fun k => defaultValue (ia_ty P ci k))).map (ia_v ad)) (fun j hj => ?_) hc1 hc2 hd (fun q0 H1 hP1 hD1 hS1 => key q0 H1 _ rfl (fun ad' => ?_) hP1 hD1 hS1)
        · unfold vp_V
          rw [List.getD_eq_getElem?_getD, List.getElem?_map, List.getElem?_map, List.getElem?_range hj]
          show _ = ia_v ad (defaultValue _)
          cases ia_ty P ci j <;> rfl
        · show (Sum.inr (ci, _) : va_E) = Sum.inr (ci, _)
          congr 2
          rw [List.map_map, List.map_map]
          apply List.map_congr_left
          intro j _
          show ia_v ad' (defaultValue _) = ia_v ad (defaultValue _)
          cases ia_ty P ci j <;> rfl
      · cases hs
    · cases hs
  · split at hs
    · next hj =>
      cases hs
      obtain ⟨j1, j2⟩ := hnum hj
      refine va_newa (atype := .int) (ty := .int) hx hb (hts _ gC.2.2.1) rfl hK hP hD hS hA (a0 := (_, .inl (fun _ => 0))) (fun _ => rfl) j1 rfl (Nat.le_trans (Nat.mul_le_mul_right _ j2) (by decide)) hc1 hc2 hd (fun q0 cA H1 hK1 hP1 hD1 hS1 => ?_)
      have hcA := ia_cyI (t := 0) hK hK1 rfl (fun C h => by cases h)
      subst hcA
      exact key q0 H1 _ rfl (fun _ => rfl) hP1 hD1 hS1
    · cases hs
  · split at hs
    · next hj =>
      cases hs
      obtain ⟨j1, j2⟩ := hnum hj
      refine va_newa (atype := .byte) (ty := .byte) hx hb (hts _ gC.2.2.2.1) rfl hK hP hD hS hA (a0 := (_, .inl (fun _ => 0))) (fun _ => rfl) j1 rfl (Nat.le_trans (Nat.mul_le_mul_right _ j2) (by decide)) hc1 hc2 hd (fun q0 cA H1 hK1 hP1 hD1 hS1 => ?_)
      have hcA := ia_cyI (t := 1) hK hK1 rfl (fun C h => by cases h)
      subst hcA
      exact key q0 H1 _ rfl (fun _ => rfl) hP1 hD1 hS1
    · cases hs
  · split at hs
    · next hj =>
      cases hs
      obtain ⟨j1, j2⟩ := hnum hj
      refine va_newa (atype := .boolean) (ty := .boolean) hx hb (hts _ gC.2.2.2.2.1) rfl hK hP hD hS hA (a0 := (_, .inl (fun _ => 0))) (fun _ => rfl) j1 rfl (Nat.le_trans (Nat.mul_le_mul_right _ j2) (by decide)) hc1 hc2 hd (fun q0 cA H1 hK1 hP1 hD1 hS1 => ?_)
      have hcA := ia_cyI (t := 2) hK hK1 rfl (fun C h => by cases h)
      subst hcA
      exact key q0 H1 _ rfl (fun _ => rfl) hP1 hD1 hS1
    · cases hs
  · split at hs
    · next hj =>
      cases hs
      obtain ⟨j1, j2⟩ := hnum hj
      refine va_newa (atype := .long) (ty := .long) hx hb (hts _ gC.2.2.2.2.2.1) rfl hK hP hD hS hA (a0 := (_, .inr (.inl (fun _ => 0)))) (fun _ => rfl) j1 rfl (Nat.le_trans (Nat.mul_le_mul_right _ j2) (by decide)) hc1 hc2 hd (fun q0 cA H1 hK1 hP1 hD1 hS1 => ?_)
      have hcA := ia_cyI (t := 3) hK hK1 rfl (fun C h => by cases h)
      subst hcA
      exact key q0 H1 _ rfl (fun _ => rfl) hP1 hD1 hS1
    · cases hs
  · split at hs
    · next hj =>
      cases hs
      obtain ⟨j1, j2⟩ := hnum hj.2
      refine ia_newq hx hb hown (hts _ (gC.2.1 own _ hj.1)) (hts _ gC.2.2.2.2.2.2) hK hP hD hS hA j1 (Nat.le_trans (Nat.mul_le_mul_right _ j2) (by decide)) hc1 hc2 hd (fun q0 H1 hP1 hD1 hS1 => ?_)
      refine key q0 H1 _ rfl (fun ad' => ?_) (by rw [ia_none]; exact hP1) (by rw [ia_none]; exact hD1) hS1
      rw [ia_none, ia_none]
    · cases hs
  · cases hs
theorem ia_prim_ok {P : ia_T} {Ts : List Cond} {D : va_G} {cy ad : Nat → Nat} {A : Nat → Prop} {own len pc n nL : Nat} {h h' : Nat → va_E} {i : Instr} {st st' : List Value} {ls : Array Slot} (hR : 1 ≤ R.frames ∧ 60 ≤ R.locals) (hRc : cells ≤ R.cells ∧ slots ≤ R.slots) (hx : p.tables.exec = Jvm.exec) (hb : c.code = cc) (hml : c.maxLocals = nL) (hsz : ls.size = nL) (hd : decode cc pc = .ok (i, len))
    (hts : ∀ w ∈ Ts, w.before args s = true) (hown : s.vm.findClass (ia_rN P own) = some m.cls) (gM : ia_gM P Ts) (hK : va_K D (ia_cl P) (ia_tys cy) s) (hP : va_P D (ia_cl P) (ia_w cy ad h n) H) (hD : va_D A (ia_w cy ad h n)) (hS : va_S A s.heap H locs)
    (hs : ia_prim P own i len st h n = some (st', h'))
    (k : ∀ (H1 : Heap) (locs1 : List Loc), va_P D (ia_cl P) (ia_w cy ad h' n) H1 → va_D A (ia_w cy ad h' n) → va_S A s.heap H1 locs1 → W p l e (R) s m args below meth c H1 locs1 cells slots Q (F0 m (pc + 3) ls (st'.map (ia_v ad)))) : W p l e (R) s m args below meth c H locs cells slots Q (F0 m pc ls (st.map (ia_v ad))) := by
  have hcat : ∀ z : List Value, ((z.map (ia_v ad)).map fun v => v.category).sum = (z.map fun v => v.category).sum := fun z => by
    rw [List.map_map]
    congr 1
    apply List.map_congr_left
    intro v _
    exact ia_v_cat ad v
  unfold ia_prim at hs
  split at hs
  · split at hs
    · next hm =>
      split at hs
      · next hq =>
        cases hs
        obtain ⟨g1, g2, g3⟩ := (gM own _ _ _ hm).2.2.2.2.2.1 rfl
        refine W.objInit hx hb hown (hts _ g1) (hts _ g2) (hts _ g3) rfl (by rw [hml]; exact hsz) rfl hd hR.1 ?_ (k H locs hP hD hS)
        show 2 * 0 + _ + 12 ≤ R.locals
        rw [hcat]
        omega
      · cases hs
    · cases hs
  · split at hs
    · next hm =>
      split at hs
      · next hc =>
        split at hs
        · next ha hbb =>
          split at hs
          · next hr =>
            cases hs
            obtain ⟨g1, g2, g3, g4⟩ := (gM own _ _ _ hm).2.2.2.2.2.2.2.1 rfl
            have hneg : ∀ {j : Int32}, 0 ≤ j.toInt → ¬ j < 0 := fun {j} hj z => by rw [Int32.lt_iff_toInt_lt, Int32.toInt_zero] at z; omega
            have hcl : ∀ j : Int32, j.toNatClampNeg = j.toInt.toNat := fun _ => rfl
            refine va_copyi (ty := .int) hx hb (by rw [hml]; exact hsz.symm) hown (hts _ g1) (hts _ g2) (hts _ g3) (hts _ g4) hK hP hD hS _ _ 0 0 (ia_we hc.2.1 ha) (ia_we hc.2.2 hbb) rfl rfl rfl (hneg hr.1) (hneg hr.2.1) (hneg hr.2.2.1) (by rw [hcl, hcl]; omega) (by rw [hcl, hcl]; omega) (fun _ _ => rfl) hR.1 ?_ hd (fun H1 locs1 hP1 hD1 hS1 => ?_)
            · show _ + (nativeFrameWords "java/lang/System" "arraycopy" 5 + 11) ≤ R.locals
              rw [hcat, show nativeFrameWords "java/lang/System" "arraycopy" 5 = 7 by decide +kernel]
              have := hc.1
              omega
            · exact k H1 locs1 (ia_w_set hc.2.2 ▸ hP1) (ia_w_set hc.2.2 ▸ hD1) hS1
          · cases hs
        · cases hs
      · cases hs
    · next hm =>
      split at hs
      · next hq =>
        cases hs
        obtain ⟨g1, g2, g3, g4⟩ := (gM own _ _ _ hm).2.2.2.2.2.2.2.2.1 rfl
        exact va_mmax hx hb (by rw [hml]; exact hsz.symm) hown (hts _ g1) (hts _ g2) (hts _ g3) (hts _ g4) hR.1 (by rw [hcat]; omega) hRc.1 hRc.2 hd (k H locs hP hD hS)
      · cases hs
    · next hm =>
      split at hs
      · next hq =>
        cases hs
        obtain ⟨g1, g2, g3, g4⟩ := (gM own _ _ _ hm).2.2.2.2.2.2.2.2.2.1 rfl
        exact va_mmin hx hb (by rw [hml]; exact hsz.symm) hown (hts _ g1) (hts _ g2) (hts _ g3) (hts _ g4) hR.1 (by rw [hcat]; omega) hRc.1 hRc.2 hd (k H locs hP hD hS)
      · cases hs
    · next hm =>
      split at hs
      · next hq =>
        cases hs
        obtain ⟨g1, g2, g3, g4⟩ := (gM own _ _ _ hm).2.2.2.2.2.2.2.2.2.2.1 rfl
        exact va_mabs hx hb (by rw [hml]; exact hsz.symm) hown (hts _ g1) (hts _ g2) (hts _ g3) (hts _ g4) hR.1 (by rw [hcat]; omega) hRc.1 hRc.2 hd (k H locs hP hD hS)
      · cases hs
    · next hm =>
      split at hs
      · next hq =>
        cases hs
        obtain ⟨g1, g2, g3, g4⟩ := (gM own _ _ _ hm).2.2.2.2.2.2.2.2.2.2.2.1 rfl
        exact va_mmax_long hx hb (by rw [hml]; exact hsz.symm) hown (hts _ g1) (hts _ g2) (hts _ g3) (hts _ g4) hR.1 (by rw [hcat]; omega) hRc.1 hRc.2 hd (k H locs hP hD hS)
      · cases hs
    · next hm =>
      split at hs
      · next hq =>
        cases hs
        obtain ⟨g1, g2, g3, g4⟩ := (gM own _ _ _ hm).2.2.2.2.2.2.2.2.2.2.2.2 rfl
        exact va_mmin_long hx hb (by rw [hml]; exact hsz.symm) hown (hts _ g1) (hts _ g2) (hts _ g3) (hts _ g4) hR.1 (by rw [hcat]; omega) hRc.1 hRc.2 hd (k H locs hP hD hS)
      · cases hs
    · cases hs
  · cases hs
theorem ia_fitI {cA i n : Nat} {f : Nat → Int32} {v : Value} (hv : (vp_cell cA (n, .inl f)).slots[i]? = some v) : fits .int v = true := by
  have hlt := (Array.getElem?_eq_some_iff.mp hv).1
  rw [vp_cell_i, arrV_size] at hlt
  rw [vp_cell_i, arrV_read _ _ hlt] at hv
  cases hv
  rfl
theorem ia_cln_ok {P : ia_T} {Ts : List Cond} {D : va_G} {cy ad : Nat → Nat} {A : Nat → Prop} {own len pc n nL k : Nat} {h : Nat → va_E} {i : Instr} {lv : List (Nat × Value)} {st st' : List Value} {x : va_E} {ls : Array Slot} (hR : 1 ≤ R.frames ∧ 60 ≤ R.locals) (hx : p.tables.exec = Jvm.exec) (hb : c.code = cc) (hml : c.maxLocals = nL) (hd : decode cc pc = .ok (i, len))
    (hts : ∀ w ∈ Ts, w.before args s = true) (hown : s.vm.findClass (ia_rN P own) = some m.cls) (gM : ia_gM P Ts) (hK : va_K D (ia_cl P) (ia_tys cy) s) (hP : va_P D (ia_cl P) (ia_w cy ad h n) H) (hD : va_D A (ia_w cy ad h n)) (hS : va_S A s.heap H locs) (hA : ∀ q, s.heap.size ≤ q → A q)
    (hs : ia_cln P own i len st h n = some (st', x, k)) (hok : ia_okh h n = true) (hos : ia_oks n lv st'.tail = true) (hn : n < 1000000) (hl : lv_has ls nL (ia_lv ad lv)) (hc1 : cells + 1 ≤ R.cells) (hc2 : slots + k ≤ R.slots)
    (kk : ∀ (ad' : Nat → Nat) (H1 : Heap), ia_ag n ad ad' → va_P D (ia_cl P) (ia_w cy ad' (va_up h n x) (n + 1)) H1 → va_D A (ia_w cy ad' (va_up h n x) (n + 1)) → va_S A s.heap H1 locs → lv_has ls nL (ia_lv ad' lv) → W p l e R s m args below meth c H1 locs (cells + 1) (slots + k) Q (F0 m (pc + 3) ls (st'.map (ia_v ad')))) : W p l e R s m args below meth c H locs cells slots Q (F0 m pc ls (st.map (ia_v ad))) := by
  have key : ∀ (q : Nat) (H1 : Heap) (r : List Value), st' = .ref n :: r → (∀ ad', ia_e cy ad' x = ia_e cy ad x) → va_P D (ia_cl P) (ia_w cy ad h n ++ [(q, ia_e cy ad x)]) H1 → va_D A (ia_w cy ad h n ++ [(q, ia_e cy ad x)]) → va_S A s.heap H1 locs → W p l e R s m args below meth c H1 locs (cells + 1) (slots + k) Q (F0 m (pc + 3) ls (.ref q :: r.map (ia_v ad))) := by
    intro q H1 r hr he hP1 hD1 hS1
    have hag : ia_ag n ad (va_up ad n q) := fun z hz => va_up_ne _ _ (by omega)
    rw [ia_w_push hok hn he] at hP1 hD1
    obtain ⟨e1, e2⟩ := ia_oks_st hag hos
    subst hr
    have := kk (va_up ad n q) H1 hag hP1 hD1 hS1 (by rw [e1]; exact hl)
    have e2 : r.map (ia_v (va_up ad n q)) = r.map (ia_v ad) := e2
    rw [List.map_cons, e2] at this
    have e3 : ia_v (va_up ad n q) (.ref n) = .ref q := by show Value.ref (va_up ad n q n) = _; rw [va_up_self]
    rw [e3] at this
    exact this
  unfold ia_cln at hs
  split at hs
  · split at hs
    · next hc =>
      split at hs
      · next ha =>
        cases hs
        obtain ⟨g1, g2, g3, g4, g5, g6⟩ := (gM own _ _ _ hc.1).2.2.2.2.2.2.1 rfl
        refine va_clone hx hb (by rw [hml]; exact hl.1.symm) hown (hts _ g1) (hts _ g2) (hts _ g3) (hts _ g4) (hts _ g5) (va_Nw.of rfl (hts _ g6)) hK hP hD hS hA _ 0 (ia_we hc.2.2 ha) rfl (hK.2 0 _ rfl).2 (fun i v hv => ?_) hR.1 ?_ hc1 hc2 hd (fun q0 H1 hK1 hP1 hD1 hS1 => key q0 H1 _ rfl (fun _ => rfl) hP1 hD1 hS1)
        · exact ia_fitI hv
        · rw [List.map_map]
          have h8 := hc.2.1
          have e8 : (List.map ((fun v => v.category) ∘ ia_v ad)) = (List.map fun v : Value => v.category) := by
            funext z
            apply List.map_congr_left
            intro v _
            exact ia_v_cat ad v
          rw [e8]
          omega
      · cases hs
    · cases hs
  · cases hs
/-- what a callee's contract says -/
def ia_Cal (P : ia_T) (Ts Xs : List Cond) (l : Launch) (D : va_G) (cy : Nat → Nat) (d : Nat) (cal : Nat → List Value → ia_H → Option (Option Value × ia_H)) : Prop :=
  ∀ (k : Nat) (as : List Value) (h : Nat → va_E) (n z q : Nat) (v : Option Value) (h' : Nat → va_E) (n' z' q' : Nat), cal k as (h, n, z, q) = some (v, h', n', z', q') → (n ≤ n' ∧ z ≤ z' ∧ q ≤ q') ∧
    ∀ (own : Nat) (y : MethodName) (cc : ByteArray) (nL : Nat) (ret : Option FieldType) (np : Nat), ia_mt P k = some (own, y, cc, nL, ret, np) → ∀ (ad : Nat → Nat) (sz : Nat),
      Met l y (Cond.code y cc nL ret :: Ts) (ia_rm d (z' - z) (q' - q)) (ia_Pc P Ts Xs D cy ad h n sz as) (ia_Qc P D cy ad n (va_A (ia_w cy ad h n) sz) v h' n') (z' - z) (q' - q) (va_A (ia_w cy ad h n) sz)
theorem ia_cat (ad : Nat → Nat) (z : List Value) : ((z.map (ia_v ad)).map fun v => v.category).sum = (z.map fun v => v.category).sum := by
  rw [List.map_map]
  congr 1
  apply List.map_congr_left
  intro v _
  exact ia_v_cat ad v
set_option maxHeartbeats 1000000 in
theorem ia_inv_ok {P : ia_T} {Ts Xs : List Cond} {D : va_G} {cy ad : Nat → Nat} {A : Nat → Prop} {cal : Nat → List Value → ia_H → Option (Option Value × ia_H)} {own len pc n z q nL d k kd n' z' q' : Nat} {h h' : Nat → va_E} {i : Instr} {st as rest : List Value} {v : Option Value} {ls : Array Slot} (hR : d + 1 ≤ R.frames ∧ 60 * (d + 1) ≤ R.locals) (hx : p.tables.exec = Jvm.exec) (hb : c.code = cc) (hml : c.maxLocals = nL) (hsz : ls.size = nL) (hd : decode cc pc = .ok (i, len))
    (hts : ∀ w ∈ Ts ++ Xs, w.before args s = true) (hXs : ∀ w ∈ Xs, w.before #[] s = true) (hown : s.vm.findClass (ia_rN P own) = some m.cls) (G : ia_Good P Ts Xs) (hK : va_K D (ia_cl P) (ia_tys cy) s) (hP : va_P D (ia_cl P) (ia_w cy ad h n) H) (hD : va_D A (ia_w cy ad h n)) (hS : va_S A s.heap H locs) (hA : ∀ q, s.heap.size ≤ q → A q) (hE : ia_E P (Ts ++ Xs) ad A s s.heap) (hC : ia_Cal P Ts Xs l D cy d cal)
    (hs : ia_inv P own i len st h n = some (k, kd, as, rest)) (hcat : (rest.map fun v => v.category).sum ≤ 8) (hc : cal k as (h, n, z, q) = some (v, h', n', z', q')) (hf : cells + (z' - z) ≤ R.cells ∧ slots + (q' - q) ≤ R.slots)
    (kk : ∀ (ad' : Nat → Nat) (H1 : Heap) (locs1 : List Loc), ia_ag n ad ad' → va_P D (ia_cl P) (ia_w cy ad' h' n') H1 → va_D A (ia_w cy ad' h' n') → va_S A s.heap H1 locs1 → W p l e (R) s m args below meth c H1 locs1 (cells + (z' - z)) (slots + (q' - q)) Q (F0 m (pc + 3) ls ((v.map (ia_v ad')).toList ++ rest.map (ia_v ad)))) : W p l e (R) s m args below meth c H locs cells slots Q (F0 m pc ls (st.map (ia_v ad))) := by
  obtain ⟨-, hM⟩ := hC k as h n z q v h' n' z' q' hc
  have hFc := ia_in_A (D := D) (cl := ia_cl P) hD hS hA
  have hfin : ∀ a : Array Value, va_Run p l e (R) s m args below meth c H locs cells slots (z' - z) (q' - q) (F0 m pc ls (st.map (ia_v ad))) (rest.map (ia_v ad)) (ia_Qc P D cy ad n (va_A (ia_w cy ad h n) H.size) v h' n' a) (va_A (ia_w cy ad h n) H.size) → W p l e (R) s m args below meth c H locs cells slots Q (F0 m pc ls (st.map (ia_v ad))) := fun a hr => by
    refine ia_callW hr hS (fun q _ h => hFc q h) hFc (fun w t H1 locs1 ht hpost hS1 => ?_)
    obtain ⟨ad', rfl, hag, hP1, hD1⟩ := hpost
    rw [ht] at hP1
    exact kk ad' H1 locs1 hag hP1 (hD1.weaken (fun k q _ h => hFc q.1 h)) hS1
  have hroom : ∀ {y : MethodName} {cc0 : ByteArray} {nL0 : Nat} {ret : Option FieldType} {np own0 : Nat}, ia_mt P k = some (own0, y, cc0, nL0, ret, np) → (ia_rm d (z' - z) (q' - q)).frames + 1 ≤ R.frames ∧ 8 + (nL0 + 11) + (ia_rm d (z' - z) (q' - q)).locals ≤ R.locals := fun hm => by
    have := (G.2.2.2.2.1 _ _ _ _ _ _ _ hm).2.2.2.1
    exact ⟨hR.1, by show 8 + (_ + 11) + 60 * d ≤ R.locals; omega⟩
  have hW : 2 * (F0 m pc ls (st.map (ia_v ad))).monitorRoom + ((rest.map (ia_v ad)).map fun v => v.category).sum ≤ 8 := lv_room (by rw [ia_cat]; exact hcat)
  unfold ia_inv at hs
  split at hs
  · split at hs
    · next k0 kd0 hm =>
      split at hs
      · next ck y cc0 nL0 ret np hmt =>
        split at hs
        · next hc2 =>
          cases hs
          obtain ⟨g1, g2, g3, g4, g5, g6, g7⟩ := G.2.2.2.2.1 _ _ _ _ _ _ _ hmt
          have hlen : (((st.take np).reverse).map (ia_v ad)).length = np := by
            rw [List.length_map, List.length_reverse, List.length_take]; omega
          have hst : st.map (ia_v ad) = (((st.take np).reverse).map (ia_v ad)).reverse ++ (st.drop np).map (ia_v ad) := by
            rw [← List.map_reverse, List.reverse_reverse, ← List.map_append, List.take_append_drop]
          rcases hc2.1 with rfl | rfl
          · obtain ⟨w1, w2, w3⟩ := (G.2.2.2.1 own _ _ _ hm).1 rfl _ _ _ _ _ _ hmt
            exact hfin _ (va_runS ⟨hx, hb, hml, hown, hts⟩ (hM _ _ _ _ _ _ hmt ad H.size) ⟨callB_of np hts (ia_good_in G g3) rfl rfl rfl (hts _ w3) (hts _ w1) ⟨g5, g6, g7⟩ (hroom hmt), hts _ w2⟩ ⟨ia_blind G.2.2.2.2.2.2.2.2, ia_ent G.2.2.2.2.2.2.2.2 hXs hK hP hD hS hA hE⟩ rfl hlen hsz hst hW hd hf)
          · obtain ⟨host, w1, w2, w3⟩ := (G.2.2.2.1 own _ _ _ hm).2.2.2.1 rfl _ _ _ _ _ _ hmt
            exact hfin _ (va_runSN ⟨hx, hb, hml, hown, hts⟩ (hM _ _ _ _ _ _ hmt ad H.size) ⟨va_cnB np hts (ia_good_in G g3) rfl rfl rfl (va_Nw.of rfl (hts _ w1)) (hts _ w3) ⟨g5, g6, g7⟩ (hroom hmt), hts _ w2, trivial⟩ ⟨ia_blind G.2.2.2.2.2.2.2.2, ia_ent G.2.2.2.2.2.2.2.2 hXs hK hP hD hS hA hE⟩ rfl hlen hsz hst hW hd hf)
        · cases hs
      · cases hs
    · cases hs
  · split at hs
    · next k0 kd0 hm =>
      split at hs
      · next ck y cc0 nL0 ret np hmt =>
        split at hs
        · next hc2 =>
          split at hs
          · next b r hdr =>
            split at hs
            · next ci fs hat =>
              split at hs
              · next hci =>
                cases hs
                subst hci
                obtain ⟨g1, g2, g3, g4, g5, g6, g7⟩ := G.2.2.2.2.1 _ _ _ _ _ _ _ hmt
                have hlen : (((st.take np).reverse).map (ia_v ad)).length = np := by
                  rw [List.length_map, List.length_reverse, List.length_take]; omega
                have hst : st.map (ia_v ad) = (((st.take np).reverse).map (ia_v ad)).reverse ++ .ref (ad b) :: rest.map (ia_v ad) := by
                  conv => lhs; rw [← List.take_append_drop np st, hdr]
                  rw [← List.map_reverse, List.reverse_reverse, List.map_append]; rfl
                obtain ⟨rfl, -⟩ := hc2
                obtain ⟨w1, w2, w3, w4⟩ := (G.2.2.2.1 own _ _ _ hm).2.1 rfl _ _ _ _ _ _ hmt
                have hrecv : ∃ cellB : Cell, H[ad b]? = some cellB ∧ cellB.vm.isStatics = false ∧ s.vm.findClass y.cls = some cellB.cls := by
                  rcases ia_at_ok hat with ⟨han, hha⟩ | ⟨han, hha⟩
                  · have hPa := hP _ _ (ia_we (cy := cy) (ad := ad) han hha)
                    obtain ⟨r0, hr0, -⟩ := hPa
                    have := va_recv hK hP hr0 (ia_we (cy := cy) (ad := ad) han hha)
                    rw [g2, ← G.2.2.2.2.2.2.1 _ _ hr0]
                    exact this
                  · rw [g2]
                    exact va_Orecv (hE.2.2.2.2.1 _ _ _ han hha) hS
                exact hfin _ (va_runV ⟨hx, hb, hml, hown, hts⟩ (hM _ _ _ _ _ _ hmt ad H.size) ⟨callB_of np hts (ia_good_in G g3) rfl rfl rfl (hts _ w4) (hts _ w1) ⟨g5, g6, g7⟩ (hroom hmt), hts _ w2, hts _ w3⟩ ⟨ia_blind G.2.2.2.2.2.2.2.2, hrecv, ia_ent G.2.2.2.2.2.2.2.2 hXs hK hP hD hS hA hE⟩ rfl hlen hsz hst hW hd hf)
              · cases hs
            · cases hs
          · cases hs
        · cases hs
      · cases hs
    · cases hs
  · split at hs
    · next k0 kd0 hm =>
      split at hs
      · next ck y cc0 nL0 ret np hmt =>
        split at hs
        · next hc2 =>
          split at hs
          · next b r hdr =>
            cases hs
            obtain ⟨g1, g2, g3, g4, g5, g6, g7⟩ := G.2.2.2.2.1 _ _ _ _ _ _ _ hmt
            have hlen : (((st.take np).reverse).map (ia_v ad)).length = np := by
              rw [List.length_map, List.length_reverse, List.length_take]; omega
            have hst : st.map (ia_v ad) = (((st.take np).reverse).map (ia_v ad)).reverse ++ .ref (ad b) :: rest.map (ia_v ad) := by
              conv => lhs; rw [← List.take_append_drop np st, hdr]
              rw [← List.map_reverse, List.reverse_reverse, List.map_append]; rfl
            rcases hc2.1 with rfl | rfl
            · obtain ⟨w1, w2, w3, w4, rfl⟩ := (G.2.2.2.1 own _ _ _ hm).2.2.1 rfl _ _ _ _ _ _ hmt
              exact hfin _ (va_runI ⟨hx, hb, hml, hown, hts⟩ (hM _ _ _ _ _ _ hmt ad H.size) ⟨callB_of np hts (ia_good_in G g3) rfl rfl rfl (hts _ w3) (hts _ w1) ⟨g5, g6, g7⟩ (hroom hmt), w4, hts _ w2⟩ ⟨ia_blind G.2.2.2.2.2.2.2.2, ia_ent G.2.2.2.2.2.2.2.2 hXs hK hP hD hS hA hE⟩ rfl hlen hsz hst hW hd hf)
            · obtain ⟨host, w1, w2, w3, w4, rfl⟩ := (G.2.2.2.1 own _ _ _ hm).2.2.2.2.1 rfl _ _ _ _ _ _ hmt
              exact hfin _ (va_runIN ⟨hx, hb, hml, hown, hts⟩ (hM _ _ _ _ _ _ hmt ad H.size) ⟨va_cnB np hts (ia_good_in G g3) rfl rfl rfl (va_Nw.of rfl (hts _ w1)) (hts _ w3) ⟨g5, g6, g7⟩ (hroom hmt), w4, hts _ w2⟩ ⟨ia_blind G.2.2.2.2.2.2.2.2, ia_ent G.2.2.2.2.2.2.2.2 hXs hK hP hD hS hA hE⟩ rfl hlen hsz hst hW hd hf)
          · cases hs
        · cases hs
      · cases hs
    · cases hs
  · cases hs
end IE
