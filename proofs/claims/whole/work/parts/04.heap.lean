section IC
variable {p : Program} {l : Launch} {e : Env} {R : Room} {s : State} {m : MethodId} {args : Array Value} {below : List Frame} {meth : Method} {c : Code} {H : Heap} {locs : List Loc} {cells slots : Nat} {Q : State → Prop} {cc : ByteArray}
/-- ldc_w of a text -/
theorem ia_ldcwS (hexec : p.tables.exec = Jvm.exec) (hb : c.code = cc) {own tx : String} {index q pc : Nat} {ls : Array Slot} {rest : List Value} (hown : s.vm.findClass own = some m.cls) (hZ : vk_R own index tx q s) (hdg : decode cc pc = .ok (.ldc_w index, 3))
    (k : W p l e R s m args below meth c H locs cells slots Q (F0 m (pc + 3) ls (.ref q :: rest))) : W p l e R s m args below meth c H locs cells slots Q (F0 m pc ls rest) := by
  intro T hT X
  obtain ⟨t, a1, b1⟩ := k T hT X
  refine ⟨t, ?_, b1⟩
  have hc1 : (Cond.stringRef own index tx).before args s = true := hZ.1
  have hc2 : (Term.string own index).eval args s none [] s = some (.ref q) := hZ.2
  obtain ⟨k1, cf, i, a', hk, hcf, hcp, -, hr, hev'⟩ := Cond.stringRef_spec hown hc1
  cases hc2.symm.trans hev'
  obtain ⟨k', hk', he⟩ := X.warmed.alike.2.2 _ _ hk
  have hr' : k'.resolved[index]? = some (some (.string q)) := by
    rcases X.warmed.entry hk hk' index with h | ⟨h, -⟩
    · rw [h]; exact hr
    · rw [hr] at h; cases h
  have hdg' : decode c.code (F0 m pc ls rest).pc = .ok (.ldc_w index, 3) := by rw [hb]; exact hdg
  jvm_step X.here [hexec, hdg', ldc_w.wp_string (e := e) (s := T) (f := F0 m pc ls rest) X.here.top hk' (by rw [he]; exact hcf) hcp hr']
  exact a1
/-- the classes of arrays -/
def ia_tys (cy : Nat → Nat) : List (ClassId × FieldType) := [(cy 0, .int), (cy 1, .byte), (cy 2, .boolean), (cy 3, .long), (cy 4, .array .int)]
/-- what the tables of a program must say -/
def ia_gF (P : ia_T) (Ts : List Cond) : Prop := ∀ own x ci k, ia_tF P own x = some (ci, k) → ci < 900 → ∃ q : vw_C, (ia_cl P)[ci]? = some q ∧ k < q.2.2 ∧ (∀ w ∈ u_ws q.1 q.2.1 q.2.2, w ∈ Ts) ∧ Cond.fieldLink (ia_rN P own) x (q.2.1 k).1 (q.2.1 k).2.1 (q.2.1 k).2.2.1 ∈ Ts ∧ (∀ j, j < q.2.2 → parseFieldDescriptor (q.2.1 j).2.2.1 = some (ia_ty P ci j)) ∧ (∀ a, a < q.2.2 → ∀ b, b < q.2.2 → a ≠ b → (q.2.1 a).2.1 ≠ (q.2.1 b).2.1) ∧ (q.2.1 k).1 = ia_rN P ci
def ia_gK (P : ia_T) (Ts : List Cond) : Prop := ∀ own x v, ia_tK P own x = some v → match v with
  | .int v => Cond.constant (ia_rN P own) x v ∈ Ts
  | .long v => Cond.constantLong (ia_rN P own) x v ∈ Ts
  | _ => True
/-- the constants of the launch, none of them among the cells A -/
def ia_E (P : ia_T) (Ts : List Cond) (ad : Nat → Nat) (A : Nat → Prop) (U : State) (H : Heap) : Prop :=
  (∀ (a N : Nat) (f : Nat → Int32), 1000000 ≤ a → ia_hc P a = .inl (0, N, .inl f) → va_T .int (ad a) N (fun j => .int (f j)) A U H) ∧
  (∀ (a N : Nat) (f : Nat → Int32), 1000000 ≤ a → ia_hc P a = .inl (1, N, .inl f) → va_T .byte (ad a) N (fun j => .int (f j)) A U H) ∧
  (∀ (own x : Nat) (v : Value), ia_tS P own x = some v → ia_okv 0 v = true ∧ ∃ C n d host : String, va_Z C n d (ia_v ad v) A U H ∧ (Cond.fieldLink (ia_rN P own) x C n d ∈ Ts ∨ Cond.fieldLinkNest (ia_rN P own) x C n d host ∈ Ts)) ∧
  (∀ (a ci : Nat) (fs : List Value), 1000000 ≤ a → ia_hc P a = .inr (ci, fs) → 900 ≤ ci ∧ ∀ own x k v, ia_tF P own x = some (ci, k) → fs[k]? = some v → ia_okv 0 v = true ∧ ∃ o nm d : String, va_OF o nm d (ia_v ad v) (ad a) A U H ∧ Cond.fieldLink (ia_rN P own) x o nm d ∈ Ts) ∧
  (∀ (a ci : Nat) (fs : List Value), 1000000 ≤ a → ia_hc P a = .inr (ci, fs) → va_O (ia_rN P ci) (ad a) A U H) ∧
  (∀ (own x a : Nat), ia_tK P own x = some (.ref a) → 1000000 ≤ a ∧ ∃ tx : String, vk_R (ia_rN P own) x tx (ad a) U) ∧
  (∀ (a : Nat), 1000000 ≤ a → match ia_hc P a with
    | .inl (0, _, .inl _) => True
    | .inl (1, _, .inl _) => True
    | .inr _ => True
    | .inl (9, _, _) => True
    | _ => False)
theorem ia_E.to {P : ia_T} {Ts : List Cond} {ad : Nat → Nat} {A B : Nat → Prop} {U : State} {H1 : Heap} (h : ia_E P Ts ad A s s.heap) (hS : va_S A s.heap H1 locs) (hW : s.WarmedH U.vm) (hAB : ∀ q, B q → A q) : ia_E P Ts ad B U H1 := by
  obtain ⟨h1, h2, h3, h4, h5, h6, h7⟩ := h
  refine ⟨fun a N f ha hc => (((h1 a N f ha hc).kept hS.2.1).narrow hAB).moved hW.alike, fun a N f ha hc => (((h2 a N f ha hc).kept hS.2.1).narrow hAB).moved hW.alike, fun own x v hv => ?_, fun a ci fs ha hc => ⟨(h4 a ci fs ha hc).1, fun own x k v hf hv => ?_⟩, fun a ci fs ha hc => (((h5 a ci fs ha hc).kept hS.2.1).narrow hAB).moved hW.alike, fun own x a hv => ?_, h7⟩
  · obtain ⟨h0, C, n, d, host, hz, hw⟩ := h3 own x v hv
    exact ⟨h0, C, n, d, host, ((hz.kept hS.2.1).narrow hAB).moved hW.alike, hw⟩
  · obtain ⟨h0, o, nm, d, hz, hw⟩ := (h4 a ci fs ha hc).2 own x k v hf hv
    exact ⟨h0, o, nm, d, ((hz.kept hS.2.1).narrow hAB).moved hW.alike, hw⟩
  · obtain ⟨h0, tx, h⟩ := h6 own x a hv
    exact ⟨h0, tx, h.warm hW⟩
theorem ia_E.ag {P : ia_T} {Ts : List Cond} {ad ad' : Nat → Nat} {A : Nat → Prop} {U : State} {H1 : Heap} {n : Nat} (h : ia_E P Ts ad A U H1) (hg : ia_ag n ad ad') : ia_E P Ts ad' A U H1 := by
  have hg : ia_ag 0 ad ad' := fun q hq => hg q (hq.imp (fun z => absurd z (Nat.not_lt_zero _)) id)
  obtain ⟨h1, h2, h3, h4, h5, h6, h7⟩ := h
  refine ⟨fun a N f ha hc => by rw [hg a (Or.inr ha)]; exact h1 a N f ha hc, fun a N f ha hc => by rw [hg a (Or.inr ha)]; exact h2 a N f ha hc, fun own x v hv => ?_, fun a ci fs ha hc => ⟨(h4 a ci fs ha hc).1, fun own x k v hf hv => ?_⟩, fun a ci fs ha hc => by rw [hg a (Or.inr ha)]; exact h5 a ci fs ha hc, fun own x a hv => ?_, h7⟩
  · obtain ⟨h0, hh⟩ := h3 own x v hv
    rw [hg.v h0]
    exact ⟨h0, hh⟩
  · obtain ⟨h0, hh⟩ := (h4 a ci fs ha hc).2 own x k v hf hv
    rw [hg.v h0, hg a (Or.inr ha)]
    exact ⟨h0, hh⟩
  · obtain ⟨h0, hh⟩ := h6 own x a hv
    rw [hg a (Or.inr h0)]
    exact ⟨h0, hh⟩
theorem ia_in_ok {j : Int32} {n : Nat} (h : ia_in j n = true) : vp_in j n := vp_in_iff.mpr (of_decide_eq_true h)
theorem ia_fit_ok {ad : Nat → Nat} {ty : FieldType} {v : Value} (h : ia_fit ty v = true) : narrow ty (ia_v ad v) = ia_v ad v ∧ fits ty (ia_v ad v) = true := by
  unfold ia_fit at h
  split at h
  · exact ⟨rfl, rfl⟩
  · exact ⟨rfl, rfl⟩
  · next b =>
    simp only [Bool.or_eq_true, beq_iff_eq] at h
    rcases h with rfl | rfl
    · exact ⟨show narrow .boolean (.int 0) = .int 0 by decide, show fits .boolean (.int 0) = true by decide⟩
    · exact ⟨show narrow .boolean (.int 1) = .int 1 by decide, show fits .boolean (.int 1) = true by decide⟩
  · exact ⟨rfl, rfl⟩
  · exact ⟨rfl, rfl⟩
  · exact ⟨rfl, rfl⟩
  · exact ⟨rfl, rfl⟩
  · cases h
theorem ia_at_ok {P : ia_T} {h : Nat → va_E} {n a : Nat} {x : va_E} (q : ia_at P h n a = some x) : (a < n ∧ h a = x) ∨ (1000000 ≤ a ∧ ia_hc P a = x) := by
  unfold ia_at at q
  split at q
  · next h1 => cases q; exact Or.inl ⟨h1, rfl⟩
  · split at q
    · next h1 => cases q; exact Or.inr ⟨h1, rfl⟩
    · cases q
theorem ia_fs {ad : Nat → Nat} {fs : List Value} {k : Nat} {v : Value} (h : fs[k]? = some v) : (fs.map (ia_v ad))[k]? = some (ia_v ad v) := by
  rw [List.getElem?_map, h]; rfl
theorem ia_we {cy ad : Nat → Nat} {h : Nat → va_E} {n k : Nat} {x : va_E} (hk : k < n) (hx : h k = x) : (ia_w cy ad h n)[k]? = some (ad k, ia_e cy ad x) := by
  rw [ia_w_get hk, hx]
theorem ia_a_n (ad : Nat → Nat) (x : vp_A) : (ia_a ad x).1 = x.1 := by
  unfold ia_a
  split <;> rfl
theorem ia_tys_at (cy : Nat → Nat) {t : Nat} (ht : t < 5) : ∃ ty, (ia_tys cy)[t]? = some (cy t, ty) := by
  match t, ht with
  | 0, _ => exact ⟨_, rfl⟩
  | 1, _ => exact ⟨_, rfl⟩
  | 2, _ => exact ⟨_, rfl⟩
  | 3, _ => exact ⟨_, rfl⟩
  | 4, _ => exact ⟨_, rfl⟩
theorem ia_aald {D : va_G} {cl : List vw_C} {cy ad : Nat → Nat} {ws : va_W} {q a n pc : Nat} {f : Nat → Option Nat} {j : Int32} {rest : List Value} {ls : Array Slot} (hx : p.tables.exec = Jvm.exec) (hb : c.code = cc) (hK : va_K D cl (ia_tys cy) s) (hP : va_P D cl ws H)
    (ha : ws[q]? = some (a, ia_e cy ad (.inl (4, n, .inr (.inr (.inr (.inr f))))))) (hin : vp_in j n) (hd : decode cc pc = .ok (.aaload, 1))
    (kk : W p l e R s m args below meth c H locs cells slots Q (F0 m (pc + 1) ls (ia_v ad (ia_ofo (f j.toNatClampNeg)) :: rest))) : W p l e R s m args below meth c H locs cells slots Q (F0 m pc ls (.int j :: .ref a :: rest)) := by
  have hlt : j.toNatClampNeg < n := Nat.not_le.mp fun q => hin (Or.inr q)
  refine W.aald (v := ia_v ad (ia_ofo (f j.toNatClampNeg))) (ty := .array .int) hx hb (hP q _ ha) ((hK.2 4 _ rfl).1 n (fun k => va_rf (if k < n then (f k).map ad else none))) rfl (fun q => by cases q) (by show ¬ (j < 0 ∨ (arrV _ _ _).slots.size ≤ _); rw [arrV_size]; exact hin) ?_ rfl rfl hd kk
  show (arrV (cy 4) n (fun k => va_rf (if k < n then (f k).map ad else none))).slots[_]? = _
  rw [arrV_read _ _ hlt, if_pos hlt]
  cases f j.toNatClampNeg <;> rfl
theorem ia_aast {D : va_G} {cl : List vw_C} {A : Nat → Prop} {H0 : Heap} {cy : Nat → Nat} {ws : va_W} {q a n qk v nv pc : Nat} {f : Nat → Option Nat} {g : Nat → Int32} {j : Int32} {rest : List Value} {ls : Array Slot} (hx : p.tables.exec = Jvm.exec) (hb : c.code = cc) (hov : (Cond.arrayOver (.array .int)).before args s = true) (hK : va_K D cl (ia_tys cy) s) (hP : va_P D cl ws H) (hD : va_D A ws) (hS : va_S A H0 H locs)
    (ha : ws[q]? = some (a, .inl (cy 4, n, .inr (.inr (.inr (.inr f)))))) (hv : ws[qk]? = some (v, .inl (cy 0, nv, .inl g))) (hin : vp_in j n) (hd : decode cc pc = .ok (.aastore, 1))
    (kk : ∀ (H1 : Heap) (locs1 : List Loc), va_P D cl (ws.set q (a, .inl (cy 4, n, .inr (.inr (.inr (.inr (va_up f j.toNatClampNeg (some v)))))))) H1 → va_D A (ws.set q (a, .inl (cy 4, n, .inr (.inr (.inr (.inr (va_up f j.toNatClampNeg (some v)))))))) → va_S A H0 H1 locs1 → W p l e R s m args below meth c H1 locs1 cells slots Q (F0 m (pc + 1) ls rest)) : W p l e R s m args below meth c H locs cells slots Q (F0 m pc ls (.ref v :: .int j :: .ref a :: rest)) := by
  have hlt : j.toNatClampNeg < n := Nat.not_le.mp fun q => hin (Or.inr q)
  have h0 : ¬ j < 0 := fun q => hin (Or.inl q)
  obtain ⟨comp, cA, kA, k1, -, k2, k3, k4⟩ := arrayOverA_spec hov
  have e4 : cy 4 = cA := Option.some.inj ((hK.2 4 _ rfl).2.symm.trans k4)
  have e0 : cy 0 = comp := Option.some.inj ((hK.2 0 _ rfl).2.symm.trans k1)
  obtain ⟨-, k0, hk0, -⟩ := (hK.2 0 _ rfl).1 0 (fun _ => .int 0)
  have hk0 : s.vm.classes[cy 0]? = some k0 := hk0
  refine W.aast (k := kA) (comp := comp) (t := .array .int) hx hb (hP q _ ha) (fun q h => by cases h) (fun h => by cases h) (show s.vm.classes[cy 4]? = some kA by rw [e4]; exact k2) k3 rfl (by rw [← e0]; exact hk0) ⟨h0, by show _ < (arrV _ _ _).slots.size; rw [arrV_size]; exact hlt⟩ (hP qk _ hv) (fun q h => by cases h) hk0 (by rw [← e0]; exact va_asg _ _) rfl rfl hd fun H1 e z oq => ?_
  refine kk H1 _ (hP.set hD ha ?_ oq) (hD.set ha) (hS.put z oq (hD.2 q _ ha))
  show H1[a]? = some (vp_cell _ _)
  rw [e]
  rw [vp_cell_q, vp_cell_q, arrV_store]
  congr 2
  funext q
  by_cases hq : q = j.toNatClampNeg
  · subst hq
    simp [updV, va_up, va_rf]
  · simp [updV, va_up, hq]
set_option maxHeartbeats 1000000 in
theorem ia_rd_ok {P : ia_T} {Ts : List Cond} {D : va_G} {cy ad : Nat → Nat} {A : Nat → Prop} {own len pc n : Nat} {h : Nat → va_E} {i : Instr} {st st' : List Value} {ls : Array Slot} (hx : p.tables.exec = Jvm.exec) (hb : c.code = cc) (hd : decode cc pc = .ok (i, len))
    (hts : ∀ w ∈ Ts, w.before args s = true) (hown : s.vm.findClass (ia_rN P own) = some m.cls) (gF : ia_gF P Ts) (gK : ia_gK P Ts) (hE : ia_E P Ts ad A s s.heap) (hK : va_K D (ia_cl P) (ia_tys cy) s) (hP : va_P D (ia_cl P) (ia_w cy ad h n) H) (hS : va_S A s.heap H locs) (hcl : (ia_cl P).length ≤ 900) (gX : ∀ own x, ia_tC P own x = some 950 → Cond.classLink (ia_rN P own) x (FieldType.array .int).toString ∈ Ts)
    (hs : ia_rd P own i len st h n = some st')
    (k : W p l e R s m args below meth c H locs cells slots Q (F0 m (pc + len) ls (st'.map (ia_v ad)))) : W p l e R s m args below meth c H locs cells slots Q (F0 m pc ls (st.map (ia_v ad))) := by
  unfold ia_rd at hs
  split at hs
  · split at hs
    · next ci kk c0 fs hf ha =>
      split at hs
      · next hc =>
        subst hc
        split at hs
        · next v hv =>
          cases hs
          rcases ia_at_ok ha with ⟨han, hha⟩ | ⟨han, hha⟩
          · have hlt : c0 < 900 := by
              have hPa := hP _ _ (ia_we (cy := cy) (ad := ad) han hha)
              obtain ⟨r, hr, -⟩ := hPa
              have := (List.getElem?_eq_some_iff.mp hr).1
              omega
            obtain ⟨q, hq, hkN, hin, hw, -⟩ := gF own _ c0 kk hf hlt
            exact va_get hx hb hts hin hown hK hP _ (ia_we han hha) hq kk hkN (hts _ hw) (fun _ h9 => h9) (ia_fs hv) hd k
          · obtain ⟨h9, h4⟩ := hE.2.2.2.1 _ c0 fs han hha
            obtain ⟨-, o, nm, d, hz, hw⟩ := h4 own _ kk v hf hv
            exact vk_getf hx hb hz hS hown (hts _ hw) (fun _ h9 => h9) hd k
        · cases hs
      · cases hs
    · cases hs
  · split at hs
    · next ha =>
      split at hs
      · next hj =>
        cases hs
        rcases ia_at_ok ha with ⟨han, hha⟩ | ⟨han, hha⟩
        · exact va_iald hx hb hK hP _ 0 (ia_we han hha) rfl (ia_in_ok hj) hd k
        · exact va_ti hx hb (hE.1 _ _ _ han hha) hS (ia_in_ok hj) rfl hd k
      · cases hs
    · cases hs
  · split at hs
    · next ha =>
      split at hs
      · next hj =>
        cases hs
        rcases ia_at_ok ha with ⟨han, hha⟩ | ⟨han, hha⟩
        · exact va_bald hx hb hK hP _ 1 (ia_we han hha) rfl (ia_in_ok hj) hd k
        · exact va_tb hx hb (hE.2.1 _ _ _ han hha) hS (ia_in_ok hj) rfl hd k
      · cases hs
    · next ha =>
      split at hs
      · next hj =>
        cases hs
        rcases ia_at_ok ha with ⟨han, hha⟩ | ⟨han, hha⟩
        · exact va_zald hx hb hK hP _ 2 (ia_we han hha) rfl (ia_in_ok hj) hd k
        · have := hE.2.2.2.2.2.2 _ han
          rw [hha] at this
          exact absurd this (by simp)
      · cases hs
    · cases hs
  · split at hs
    · next ha =>
      split at hs
      · next hj =>
        cases hs
        rcases ia_at_ok ha with ⟨han, hha⟩ | ⟨han, hha⟩
        · exact va_lald hx hb hK hP _ 3 (ia_we han hha) rfl (ia_in_ok hj) hd k
        · have := hE.2.2.2.2.2.2 _ han
          rw [hha] at this
          exact absurd this (by simp)
      · cases hs
    · cases hs
  · split at hs
    · next ha =>
      split at hs
      · next hj =>
        cases hs
        rcases ia_at_ok ha with ⟨han, hha⟩ | ⟨han, hha⟩
        · exact ia_aald hx hb hK hP (ia_we han hha) (ia_in_ok hj) hd k
        · have := hE.2.2.2.2.2.2 _ han
          rw [hha] at this
          exact absurd this (by simp)
      · cases hs
    · cases hs
  · split at hs
    · next t N z ha =>
      split at hs
      · next ht =>
        cases hs
        rcases ia_at_ok ha with ⟨han, hha⟩ | ⟨han, hha⟩
        · obtain ⟨ty, hty⟩ := ia_tys_at cy ht
          have he := ia_we (cy := cy) (ad := ad) han hha
          exact va_alen hx hb hK hP _ t he hty (by rw [ia_a_n]) hd k
        · have h7 := hE.2.2.2.2.2.2 _ han
          rw [hha] at h7
          match t, ht, z, h7, hha with
          | 0, _, .inl f, _, hha => exact va_tlen hx hb (hE.1 _ _ _ han hha) hS rfl hd k
          | 1, _, .inl f, _, hha => exact va_tlen hx hb (hE.2.1 _ _ _ han hha) hS rfl hd k
          | 9, ht, _, _, _ => exact absurd ht (by decide)
      · cases hs
    · cases hs
  · split at hs
    · next hc =>
      split at hs
      · next ha =>
        cases hs
        exact va_castA hx hb hown (hts _ (gX own _ hc.1)) hP _ (ia_we hc.2 ha) (hK.2 0 _ rfl).2 hd k
      · cases hs
    · cases hs
  · split at hs
    · next v hv =>
      cases hs
      obtain ⟨-, C, nm, dd, host, hz, hw | hw⟩ := hE.2.2.1 own _ v hv
      · exact va_gets hx hb hz hS hown (hts _ hw) (fun _ h9 => h9) hd k
      · exact va_getsN hx hb hz hS hown (hts _ hw) (fun _ h9 => h9) hd k
    · cases hs
  · split at hs
    · next v hv => cases hs; exact lv_ldc hx hb hown (hts _ (gK _ _ _ hv)) hd k
    · next a hv => cases hs; obtain ⟨-, tx, h6⟩ := hE.2.2.2.2.2.1 own _ a hv; exact va_ldcS hx hb hown h6 hd k
    · cases hs
  · split at hs
    · next v hv => cases hs; exact lv_ldcw hx hb hown (hts _ (gK _ _ _ hv)) hd k
    · next a hv => cases hs; obtain ⟨-, tx, h6⟩ := hE.2.2.2.2.2.1 own _ a hv; exact ia_ldcwS hx hb hown h6 hd k
    · cases hs
  · split at hs
    · next v hv => cases hs; exact lv_ldc2 hx hb hown (hts _ (gK _ _ _ hv)) hd k
    · cases hs
  · cases hs
theorem ia_upq {ad : Nat → Nat} {f : Nat → Option Nat} {i N b : Nat} (hlt : i < N) : (fun t => if t < N then (va_up f i (some b) t).map ad else none) = va_up (fun t => if t < N then (f t).map ad else none) i (some (ad b)) := by
  funext t
  by_cases ht : t = i
  · subst ht
    rw [va_up_self, va_up_self, if_pos hlt]; rfl
  · rw [va_up_ne _ _ ht, va_up_ne _ _ ht]
set_option maxHeartbeats 1000000 in
theorem ia_wr_ok {P : ia_T} {Ts : List Cond} {D : va_G} {cy ad : Nat → Nat} {A : Nat → Prop} {H0 : Heap} {own len pc n : Nat} {ini : Bool} {h h' : Nat → va_E} {i : Instr} {st st' : List Value} {ls : Array Slot} (hx : p.tables.exec = Jvm.exec) (hb : c.code = cc) (hd : decode cc pc = .ok (i, len))
    (hts : ∀ w ∈ Ts, w.before args s = true) (hown : s.vm.findClass (ia_rN P own) = some m.cls) (hin : ini = true → meth.name = "<init>") (gF : ia_gF P Ts) (gO : Cond.arrayOver (.array .int) ∈ Ts) (hK : va_K D (ia_cl P) (ia_tys cy) s) (hP : va_P D (ia_cl P) (ia_w cy ad h n) H) (hD : va_D A (ia_w cy ad h n)) (hS : va_S A H0 H locs) (hcl : (ia_cl P).length ≤ 900)
    (hs : ia_wr P own ini i len st h n = some (st', h'))
    (k : ∀ (H1 : Heap) (locs1 : List Loc), va_P D (ia_cl P) (ia_w cy ad h' n) H1 → va_D A (ia_w cy ad h' n) → va_S A H0 H1 locs1 → W p l e R s m args below meth c H1 locs1 cells slots Q (F0 m (pc + len) ls (st'.map (ia_v ad)))) : W p l e R s m args below meth c H locs cells slots Q (F0 m pc ls (st.map (ia_v ad))) := by
  unfold ia_wr at hs
  split at hs
  · split at hs
    · next ci kk c0 fs hf ha =>
      split at hs
      · next hc =>
        obtain ⟨han, rfl, hkf, hft, hfin⟩ := hc
        cases hs
        have hlt : c0 < 900 := by
          have hPa := hP _ _ (ia_we (cy := cy) (ad := ad) han ha)
          obtain ⟨r, hr, -⟩ := hPa
          have := (List.getElem?_eq_some_iff.mp hr).1
          omega
        obtain ⟨q, hq, hkN, hinw, hw, hty, hnm, hdc⟩ := gF own _ c0 kk hf hlt
        have hf2 : ia_fin P c0 kk = (q.2.1 kk).2.2.2 := by unfold ia_fin; rw [hq]
        rw [hf2] at hfin
        obtain ⟨ht1, ht2⟩ := ia_fit_ok (ad := ad) hft
        have hback : ∀ (v : Value), (ia_w cy ad h n).set _ (ad _, .inr (c0, (fs.map (ia_v ad)).set kk (ia_v ad v))) = ia_w cy ad (va_up h _ (.inr (c0, fs.set kk v))) n := fun v => by
          rw [← ia_w_set han]
          congr 2
          show _ = (Sum.inr (c0, (fs.set kk v).map (ia_v ad)) : va_E)
          rw [List.map_set]
        rcases hfin with hfin | ⟨hi, hco⟩
        · refine va_put hx hb hts hinw (ia_ty P c0) hty hnm hown hK hP hD hS _ (ia_we han ha) hq kk hkN (hts _ hw) (fun _ h9 => h9) hfin (hty kk hkN) ht1 ht2 (by rw [List.length_map]; exact hkf) hd (fun H1 locs1 hP hD hS => ?_)
          rw [hback] at hP hD
          exact k H1 locs1 hP hD hS
        · cases hfv : (q.2.1 kk).2.2.2 with
          | false =>
            refine va_put hx hb hts hinw (ia_ty P c0) hty hnm hown hK hP hD hS _ (ia_we han ha) hq kk hkN (hts _ hw) (fun _ h9 => h9) hfv (hty kk hkN) ht1 ht2 (by rw [List.length_map]; exact hkf) hd (fun H1 locs1 hP hD hS => ?_)
            rw [hback] at hP hD
            exact k H1 locs1 hP hD hS
          | true =>
            refine va_putF hx hb hts hinw (ia_ty P c0) hty hnm hown hK hP hD hS _ (ia_we han ha) hq kk hkN (hts _ hw) (fun _ h9 => h9) hfv (hin hi) (by rw [hdc, hco]) (hty kk hkN) ht1 ht2 (by rw [List.length_map]; exact hkf) hd (fun H1 locs1 hP hD hS => ?_)
            rw [hback] at hP hD
            exact k H1 locs1 hP hD hS
      · cases hs
    · cases hs
  · split at hs
    · next ha =>
      split at hs
      · next hc =>
        cases hs
        refine va_iast hx hb hK hP hD hS _ 0 (ia_we hc.1 ha) rfl (ia_in_ok hc.2) hd (fun H1 locs1 hP hD hS => ?_)
        exact k H1 locs1 (ia_w_set hc.1 ▸ hP) (ia_w_set hc.1 ▸ hD) hS
      · cases hs
    · cases hs
  · split at hs
    · next ha =>
      split at hs
      · next hc =>
        cases hs
        refine va_bast hx hb hK hP hD hS _ 1 (ia_we hc.1 ha) rfl (ia_in_ok hc.2) hd (fun H1 locs1 hP hD hS => ?_)
        exact k H1 locs1 (ia_w_set hc.1 ▸ hP) (ia_w_set hc.1 ▸ hD) hS
      · cases hs
    · next ha =>
      split at hs
      · next hc =>
        cases hs
        refine va_zast hx hb hK hP hD hS _ 2 (ia_we hc.1 ha) rfl (ia_in_ok hc.2) hd (fun H1 locs1 hP hD hS => ?_)
        exact k H1 locs1 (ia_w_set hc.1 ▸ hP) (ia_w_set hc.1 ▸ hD) hS
      · cases hs
    · cases hs
  · split at hs
    · next ha =>
      split at hs
      · next hc =>
        cases hs
        refine va_last hx hb hK hP hD hS _ 3 (ia_we hc.1 ha) rfl (ia_in_ok hc.2) hd (fun H1 locs1 hP hD hS => ?_)
        exact k H1 locs1 (ia_w_set hc.1 ▸ hP) (ia_w_set hc.1 ▸ hD) hS
      · cases hs
    · cases hs
  · split at hs
    · next ha hv =>
      split at hs
      · next hc =>
        cases hs
        refine ia_aast hx hb (hts _ gO) hK hP hD hS (ia_we hc.1 ha) (ia_we hc.2.1 hv) (ia_in_ok hc.2.2) hd (fun H1 locs1 hP hD hS => ?_)
        rw [← ia_upq (Nat.not_le.mp fun q => ia_in_ok hc.2.2 (Or.inr q))] at hP hD
        exact k H1 locs1 (ia_w_set hc.1 ▸ hP) (ia_w_set hc.1 ▸ hD) hS
      · cases hs
    · cases hs
  · cases hs
end IC
