section IF
theorem ia_lp_le {P : ia_T} {cal : Nat → List Value → ia_H → Option (Option Value × ia_H)} {ex : Nat → List Value → ia_H → Option (List Value × ia_H)} (hX : ∀ pc st (hp : ia_H) r, ex pc st hp = some r → hp.2.1 ≤ r.2.2.1 ∧ hp.2.2.1 ≤ r.2.2.2.1 ∧ hp.2.2.2 ≤ r.2.2.2.2) {own nL : Nat} {ini : Bool} {cc : ByteArray} {ret : Option FieldType} (hC : ∀ k as hp r, cal k as hp = some r → hp.2.1 ≤ r.2.2.1 ∧ hp.2.2.1 ≤ r.2.2.2.1 ∧ hp.2.2.2 ≤ r.2.2.2.2) :
    ∀ (f pc : Nat) (lv : List (Nat × Value)) (st : List Value) (hp : ia_H) (r : Option Value × ia_H), ia_lp P cal ex own ini cc nL ret f pc lv st hp = some r → hp.2.1 ≤ r.2.2.1 ∧ hp.2.2.1 ≤ r.2.2.2.1 ∧ hp.2.2.2 ≤ r.2.2.2.2 := by
  intro f
  induction f with
  | zero => intro pc lv st hp r h; cases h
  | succ f ih =>
    intro pc lv st hp r h
    unfold ia_lp at h
    split at h
    · cases h
    · split at h
      · split at h
        · have h2 := ih _ _ _ _ _ h; exact h2
        · cases h
      · split at h
        · have h2 := ih _ _ _ _ _ h; exact h2
        · cases h
      · split at h
        · have h2 := ih _ _ _ _ _ h; exact h2
        · cases h
      · split at h
        · have h2 := ih _ _ _ _ _ h; exact h2
        · cases h
      · split at h
        · have h2 := ih _ _ _ _ _ h; exact h2
        · cases h
      · split at h
        · split at h
          · have := ih _ _ _ _ _ h
            exact ⟨Nat.le_trans (Nat.le_succ _) this.1, Nat.le_trans (Nat.le_succ _) this.2.1, Nat.le_trans (Nat.le_add_right _ _) this.2.2⟩
          · cases h
        · cases h
      · split at h
        · next hx =>
          have h1 := hX _ _ _ _ hx
          have h2 := ih _ _ _ _ _ h
          exact ⟨Nat.le_trans h1.1 h2.1, Nat.le_trans h1.2.1 h2.2.1, Nat.le_trans h1.2.2 h2.2.2⟩
        split at h
        · have h2 := ih _ _ _ _ _ h; exact h2
        · split at h
          · split at h
            · split at h
              · next hc =>
                have h1 := hC _ _ _ _ hc
                have h2 := ih _ _ _ _ _ h
                exact ⟨Nat.le_trans h1.1 h2.1, Nat.le_trans h1.2.1 h2.2.1, Nat.le_trans h1.2.2 h2.2.2⟩
              · cases h
            · cases h
          · split at h
            · split at h
              · have := ih _ _ _ _ _ h
                exact ⟨Nat.le_trans (Nat.le_succ _) this.1, Nat.le_trans (Nat.le_succ _) this.2.1, Nat.le_trans (Nat.le_add_right _ _) this.2.2⟩
              · cases h
            · cases h
      · split at h
        · cases h; exact ⟨Nat.le_refl _, Nat.le_refl _, Nat.le_refl _⟩
        · cases h
theorem ia_sl (ad : Nat → Nat) (as : List Value) : (lg_sl (as.map (ia_v ad))).length = (lg_sl as).length := by
  induction as with
  | nil => rfl
  | cons v as ih =>
    unfold lg_sl at ih ⊢
    rw [List.map_cons, List.flatMap_cons, List.flatMap_cons, List.length_append, List.length_append, ih, ia_v_cat]
    congr 1
    split <;> rfl
theorem ia_lvargs (ad : Nat → Nat) (as : List Value) : ∀ i, lv_args i (as.map (ia_v ad)) = ia_lv ad (lv_args i as) := by
  induction as with
  | nil => intro i; rfl
  | cons v as ih =>
    intro i
    show (i, ia_v ad v) :: lv_args (if (ia_v ad v).category = 2 then i + 2 else i + 1) (as.map (ia_v ad)) = (i, ia_v ad v) :: ia_lv ad (lv_args (if v.category = 2 then i + 2 else i + 1) as)
    rw [ih, ia_v_cat]
variable {p : Program} {l : Launch} {e : Env} {s : State} {m : MethodId} {args : Array Value} {below : List Frame} {meth : Method} {c : Code} {cc : ByteArray}
set_option maxHeartbeats 2000000 in
theorem ia_lp_ok {R : Room} {Q : State → Prop} {P : ia_T} {Ts Xs : List Cond} {D : va_G} {cy ad0 : Nat → Nat} {A : Nat → Prop} {cal : Nat → List Value → ia_H → Option (Option Value × ia_H)} {ex : Nat → List Value → ia_H → Option (List Value × ia_H)} {own nL d n0 z0 q0 n' z' q' : Nat} {ini : Bool} {ret : Option FieldType} {v : Option Value} {h' : Nat → va_E} (hR : d + 1 ≤ R.frames ∧ 60 * (d + 1) ≤ R.locals) (hRc : z' - z0 ≤ R.cells ∧ q' - q0 ≤ R.slots) (hx : p.tables.exec = Jvm.exec) (hb : c.code = cc) (hml : c.maxLocals = nL) (hin : ini = true → meth.name = "<init>")
    (hts : ∀ w ∈ Ts ++ Xs, w.before args s = true) (hXs : ∀ w ∈ Xs, w.before #[] s = true) (hown : s.vm.findClass (ia_rN P own) = some m.cls) (G : ia_Good P Ts Xs) (hK : va_K D (ia_cl P) (ia_tys cy) s) (hA : ∀ q, s.heap.size ≤ q → A q) (hC : ia_Cal P Ts Xs l D cy d cal)
    (hX : ∀ (pc : Nat) (st : List Value) (h : Nat → va_E) (n z q : Nat) (st' : List Value) (h1 : Nat → va_E) (n1 z1 q1 : Nat), ex pc st (h, n, z, q) = some (st', h1, n1, z1, q1) → (n1 = n ∧ z ≤ z1 ∧ q ≤ q1) ∧ ∀ (ad : Nat → Nat) (H : Heap) (locs : List Loc) (ls : Array Slot) (cells slots : Nat), ls.size = nL → va_P D (ia_cl P) (ia_w cy ad h n) H → va_D A (ia_w cy ad h n) → va_S A s.heap H locs → ia_E P (Ts ++ Xs) ad A s s.heap → cells + (z1 - z) ≤ R.cells → slots + (q1 - q) ≤ R.slots → (∀ (H1 : Heap) (locs1 : List Loc), va_P D (ia_cl P) (ia_w cy ad h1 n) H1 → va_D A (ia_w cy ad h1 n) → va_S A s.heap H1 locs1 → W p l e R s m args below meth c H1 locs1 (cells + (z1 - z)) (slots + (q1 - q)) Q (F0 m (pc + 3) ls (st'.map (ia_v ad)))) → W p l e R s m args below meth c H locs cells slots Q (F0 m pc ls (st.map (ia_v ad))))
    (hret : ∀ (i : Instr) (len pc : Nat) (st : List Value) (ad : Nat → Nat) (H : Heap) (locs : List Loc) (ls : Array Slot), decode cc pc = .ok (i, len) → ia_ret i len ret st = some v → ia_ag n0 ad0 ad → va_P D (ia_cl P) (ia_w cy ad h' n') H → va_D A (ia_w cy ad h' n') → va_S A s.heap H locs → W p l e R s m args below meth c H locs (z' - z0) (q' - q0) Q (F0 m pc ls (st.map (ia_v ad)))) :
    ∀ (f pc : Nat) (lv : List (Nat × Value)) (st : List Value) (h : Nat → va_E) (n z q : Nat), ia_lp P cal ex own ini cc nL ret f pc lv st (h, n, z, q) = some (v, h', n', z', q') → n0 ≤ n → z0 ≤ z → q0 ≤ q → ∀ (ad : Nat → Nat) (H : Heap) (locs : List Loc) (ls : Array Slot), ia_ag n0 ad0 ad → va_P D (ia_cl P) (ia_w cy ad h n) H → va_D A (ia_w cy ad h n) → va_S A s.heap H locs → ia_E P (Ts ++ Xs) ad A s s.heap → lv_has ls nL (ia_lv ad lv) →
      W p l e R s m args below meth c H locs (z - z0) (q - q0) Q (F0 m pc ls (st.map (ia_v ad))) := by
  have hmono : ∀ k as (hp : ia_H) r, cal k as hp = some r → hp.2.1 ≤ r.2.2.1 ∧ hp.2.2.1 ≤ r.2.2.2.1 ∧ hp.2.2.2 ≤ r.2.2.2.2 := fun k as hp r hc => (hC k as hp.1 hp.2.1 hp.2.2.1 hp.2.2.2 r.1 r.2.1 r.2.2.1 r.2.2.2.1 r.2.2.2.2 hc).1
  have hX2 : ∀ pc st (hp : ia_H) r, ex pc st hp = some r → hp.2.1 ≤ r.2.2.1 ∧ hp.2.2.1 ≤ r.2.2.2.1 ∧ hp.2.2.2 ≤ r.2.2.2.2 := fun pc st hp r hx => by
    have := (hX pc st hp.1 hp.2.1 hp.2.2.1 hp.2.2.2 r.1 r.2.1 r.2.2.1 r.2.2.2.1 r.2.2.2.2 hx).1
    exact ⟨Nat.le_of_eq this.1.symm, this.2⟩
  intro f
  induction f with
  | zero => intro pc lv st h n z q hl; cases hl
  | succ f ih =>
    intro pc lv st h n z q hl hn hz hq ad H locs ls hag hP hD hS hE hls
    have hle := ia_lp_le hX2 hmono _ _ _ _ _ _ hl
    unfold ia_lp at hl
    split at hl
    · cases hl
    · next i len hd =>
      split at hl
      · split at hl
        · next hs => exact ia_num_ok hx hb hd hs (ih _ _ _ _ _ _ _ hl hn hz hq ad H locs ls hag hP hD hS hE hls)
        · cases hl
      · split at hl
        · next hs => exact ia_loc_ok hx hb hd hls hs (fun ls' hls' => ih _ _ _ _ _ _ _ hl hn hz hq ad H locs ls' hag hP hD hS hE hls')
        · cases hl
      · split at hl
        · next hs => exact ia_br_ok hx hb hd hs (ih _ _ _ _ _ _ _ hl hn hz hq ad H locs ls hag hP hD hS hE hls)
        · cases hl
      · split at hl
        · next hs => exact ia_rd_ok hx hb hd hts hown G.1 G.2.1 hE hK hP hS G.2.2.2.2.2.2.2.1 G.2.2.1.2.1 hs (ih _ _ _ _ _ _ _ hl hn hz hq ad H locs ls hag hP hD hS hE hls)
        · cases hl
      · split at hl
        · next hs => exact ia_wr_ok hx hb hd hts hown hin G.1 G.2.2.1.2.2.2.2.2.2 hK hP hD hS G.2.2.2.2.2.2.2.1 hs (fun H1 locs1 hP1 hD1 hS1 => ih _ _ _ _ _ _ _ hl hn hz hq ad H1 locs1 ls hag hP1 hD1 hS1 hE hls)
        · cases hl
      · split at hl
        · next hs =>
          split at hl
          · next hok =>
            have hle2 := ia_lp_le hX2 hmono _ _ _ _ _ _ hl
            have hle3 : z + 1 ≤ z' := hle2.2.1
            have hle4 := hle2.2.2
            dsimp only at hle4
            refine ia_mk_ok hx hb hd hts hown G.2.2.1 hK hP hD hS hA hs hok.1 hok.2.1 hok.2.2 hls (show z - z0 + 1 ≤ R.cells by omega) (show q - q0 + _ ≤ R.slots by omega) (fun ad' H1 hag1 hP1 hD1 hS1 hls1 => ?_)
            have := ih _ _ _ _ _ _ _ hl (Nat.le_trans hn (Nat.le_succ n)) (Nat.le_trans hz (Nat.le_succ z)) (Nat.le_trans hq (Nat.le_add_right _ _)) ad' H1 locs ls (hag.tr hn hag1) hP1 hD1 hS1 (hE.ag hag1) hls1
            rw [show z + 1 - z0 = z - z0 + 1 by omega, Nat.sub_add_comm hq] at this
            exact this
          · cases hl
        · cases hl
      · split at hl
        · next st' hp1 hx1 =>
          obtain ⟨h1, n1, z1, q1⟩ := hp1
          have hle2 := ia_lp_le hX2 hmono _ _ _ _ _ _ hl
          have a4 : q1 ≤ q' := hle2.2.2
          have a6 : z1 ≤ z' := hle2.2.1
          obtain ⟨⟨rfl, b1, b2⟩, hW⟩ := hX _ _ _ _ _ _ _ _ _ _ _ hx1
          refine hW ad H locs ls _ _ hls.1 hP hD hS hE (by omega) (by omega) (fun H1 locs1 hP1 hD1 hS1 => ?_)
          have := ih _ _ _ _ _ _ _ hl hn (by omega) (by omega) ad H1 locs1 ls hag hP1 hD1 hS1 hE hls
          rw [show z1 - z0 = z - z0 + (z1 - z) by omega, show q1 - q0 = q - q0 + (q1 - q) by omega] at this
          exact this
        split at hl
        · next hs => exact ia_prim_ok ⟨by omega, by omega⟩ ⟨by have a6 : z ≤ z' := hle.2.1; omega, by have a6 : q ≤ q' := hle.2.2; omega⟩ hx hb hml hls.1 hd hts hown G.2.2.2.1 hK hP hD hS hs (fun H1 locs1 hP1 hD1 hS1 => ih _ _ _ _ _ _ _ hl hn hz hq ad H1 locs1 ls hag hP1 hD1 hS1 hE hls)
        · split at hl
          · next hs =>
            split at hl
            · next hok =>
              split at hl
              · next w hp1 hc =>
                obtain ⟨h1, n1, z1, q1⟩ := hp1
                have hle2 := ia_lp_le hX2 hmono _ _ _ _ _ _ hl
                have hle3 := hmono _ _ _ _ hc
                have a1 : n ≤ n1 := hle3.1
                have a2 : q ≤ q1 := hle3.2.2
                have a3 : n1 ≤ n' := hle2.1
                have a4 : q1 ≤ q' := hle2.2.2
                have a5 : z ≤ z1 := hle3.2.1
                have a6 : z1 ≤ z' := hle2.2.1
                refine ia_inv_ok hR hx hb hml hls.1 hd hts hXs hown G hK hP hD hS hA hE hC hs hok.2 hc ⟨by omega, by omega⟩ (fun ad' H1 locs1 hag1 hP1 hD1 hS1 => ?_)
                obtain ⟨e1, e2⟩ := ia_oks_st hag1 hok.1
                have := ih _ _ _ _ _ _ _ hl (by omega) (by omega) (by omega) ad' H1 locs1 ls (hag.tr hn hag1) hP1 hD1 hS1 (hE.ag hag1) (by rw [e1]; exact hls)
                rw [List.map_append, e2, show z1 - z0 = z - z0 + (z1 - z) by omega, show q1 - q0 = q - q0 + (q1 - q) by omega] at this
                cases w with
                | none => exact this
                | some w => exact this
              · cases hl
            · cases hl
          · split at hl
            · next hs =>
              split at hl
              · next hok =>
                have hle2 := ia_lp_le hX2 hmono _ _ _ _ _ _ hl
                have hle3 : z + 1 ≤ z' := hle2.2.1
                have hle4 := hle2.2.2
                dsimp only at hle4
                refine ia_cln_ok ⟨by omega, by omega⟩ hx hb hml hd hts hown G.2.2.2.1 hK hP hD hS hA hs hok.1 hok.2.1 hok.2.2 hls (show z - z0 + 1 ≤ R.cells by omega) (show q - q0 + _ ≤ R.slots by omega) (fun ad' H1 hag1 hP1 hD1 hS1 hls1 => ?_)
                have := ih _ _ _ _ _ _ _ hl (Nat.le_trans hn (Nat.le_succ n)) (Nat.le_trans hz (Nat.le_succ z)) (Nat.le_trans hq (Nat.le_add_right _ _)) ad' H1 locs ls (hag.tr hn hag1) hP1 hD1 hS1 (hE.ag hag1) hls1
                rw [show z + 1 - z0 = z - z0 + 1 by omega, Nat.sub_add_comm hq] at this
                exact this
              · cases hl
            · cases hl
      · split at hl
        · next w hs =>
          cases hl
          exact hret _ _ _ _ ad H locs ls hd hs hag hP hD hS
        · cases hl
theorem ia_ret_ok {P : ia_T} {D : va_G} {cy ad0 ad : Nat → Nat} {A : Nat → Prop} {R : Room} {n0 n' pc len cells slots : Nat} {ret : Option FieldType} {v : Option Value} {h' : Nat → va_E} {i : Instr} {st : List Value} {H : Heap} {locs : List Loc} {ls : Array Slot} (hx : p.tables.exec = Jvm.exec) (hb : c.code = cc) (hr : meth.sig.returnType = ret) (hlocks : meth.locks = false)
    (hd : decode cc pc = .ok (i, len)) (hs : ia_ret i len ret st = some v) (hag : ia_ag n0 ad0 ad) (hP : va_P D (ia_cl P) (ia_w cy ad h' n') H) (hD : va_D A (ia_w cy ad h' n')) (hS : va_S A s.heap H locs) : W p l e R s m args below meth c H locs cells slots (MQ below (ia_Qc P D cy ad0 n0 A v h' n') args s cells slots A) (F0 m pc ls (st.map (ia_v ad))) := by
  have hend : ∀ t : State, t.heap = H → ∀ z : Option Value, z = v.map (ia_v ad) → ia_Qc P D cy ad0 n0 A v h' n' args s (.returned z) t := fun t ht z hz => ⟨⟨z, rfl, ad, hz, hag, by rw [ht]; exact hP, hD⟩, hS.F ht⟩
  unfold ia_ret at hs
  split at hs
  · cases hs; exact W.iret hx hb hr (fun t ht _ => hend t ht _ rfl) hS.2.2 hd
  · split at hs
    · next hv =>
      cases hs
      refine W.zret (ty := .boolean) hx hb hr ?_ (fun t ht _ => hend t ht _ rfl) hS.2.2 hd
      rcases hv with rfl | rfl <;> decide
    · cases hs
  · split at hs
    · next hv =>
      cases hs
      refine W.zret (ty := .byte) hx hb hr ?_ (fun t ht _ => hend t ht _ rfl) hS.2.2 hd
      rcases hv with rfl | rfl <;> decide
    · cases hs
  · split at hs
    · next hv => cases hs; exact W.zret (ty := .char) hx hb hr (ia_nar_c hv) (fun t ht _ => hend t ht _ rfl) hS.2.2 hd
    · cases hs
  · cases hs; exact W.lret hx hb hr (fun t ht _ => hend t ht _ rfl) hS.2.2 hd
  · cases hs; exact W.aret hx hb hr (Or.inr ⟨_, rfl⟩) (Or.inr ⟨_, rfl⟩) (fun t ht _ => hend t ht _ rfl) hS.2.2 hd
  · cases hs; exact W.aret hx hb hr (Or.inr ⟨_, rfl⟩) (Or.inl rfl) (fun t ht _ => hend t ht _ rfl) hS.2.2 hd
  · cases hs; exact W.aret hx hb hr (Or.inl ⟨_, rfl⟩) (Or.inr ⟨_, rfl⟩) (fun t ht _ => hend t ht _ rfl) hS.2.2 hd
  · cases hs; exact W.vret hx hb hr (fun t ht _ => hend t ht _ rfl) hS.2.2 hd
  · cases hs
/-- THE PURE MACHINE SAYS WHAT THE MACHINE DOES: each method's contract -/
theorem ia_sound {P : ia_T} {Ts Xs : List Cond} (G : ia_Good P Ts Xs) (l : Launch) (D : va_G) (cy : Nat → Nat) (F : Nat) : ∀ d : Nat, ia_Cal P Ts Xs l D cy d (ia_call P F d) := by
  intro d
  induction d with
  | zero => intro k as h n z q v h' n' z' q' hc; cases hc
  | succ d ih =>
    intro k as h n z q v h' n' z' q' hc
    have hmono : ∀ k as (hp : ia_H) r, ia_call P F d k as hp = some r → hp.2.1 ≤ r.2.2.1 ∧ hp.2.2.1 ≤ r.2.2.2.1 ∧ hp.2.2.2 ≤ r.2.2.2.2 := fun k as hp r hc => (ih k as hp.1 hp.2.1 hp.2.2.1 hp.2.2.2 r.1 r.2.1 r.2.2.1 r.2.2.2.1 r.2.2.2.2 hc).1
    unfold ia_call at hc
    split at hc
    · cases hc
    · next own y cc nL ret np hm =>
      split at hc
      · next hlen =>
        refine ⟨ia_lp_le (fun _ _ _ _ h => by cases h) hmono _ _ _ _ _ _ hc, ?_⟩
        intro own0 y0 cc0 nL0 ret0 np0 hm0 ad sz
        cases hm.symm.trans hm0
        obtain ⟨g1, g2, g3, g4, g5, g6, g7⟩ := G.2.2.2.2.1 _ _ _ _ _ _ _ hm
        refine Met.ofW (cc := cc) (maxL := nL) (ret := ret) g1 rfl ?_
        intro p e s m args below meth c s₁ B hml hv
        obtain ⟨rfl, hsz, hP, hK, hD0, hE, hXs⟩ := hv
        have hx := B.exec
        have hb := B.bytes
        have hr := B.returns
        have hts := atoms_spec (ws := Cond.code y cc nL ret :: Ts) B.pre
        have hown : s.vm.findClass y.cls = some m.cls := findClass_of_methodNamed B.named
        have hlocks := B.notSynchronized
        have hin : meth.name = y.name := (name_of_methodNamed B.named B.method).1
        subst hsz
        have hD := hD0.self (sz := s.heap.size)
        have hA : ∀ q : Nat, s.heap.size ≤ q → va_A (ia_w cy ad h n) s.heap.size q := fun q h => Or.inr h
        have hS : va_S (va_A (ia_w cy ad h n) s.heap.size) s.heap s.heap [] := va_S.rf
        have hl := lv_entry (as.map (ia_v ad)) (n := nL) (by rw [ia_sl]; exact hlen)
        rw [lg_entry_eq]
        generalize (lg_sl (as.map (ia_v ad)) ++ List.replicate (nL - (lg_sl (as.map (ia_v ad))).length) Slot.unset).toArray = ls at hl ⊢
        rw [ia_lvargs] at hl
        have := ia_lp_ok (R := ia_rm (d + 1) (z' - z) (q' - q)) (Q := MQ below (ia_Qc P D cy ad n (va_A (ia_w cy ad h n) s.heap.size) v h' n') (as.map (ia_v ad)).toArray s (z' - z) (q' - q) (va_A (ia_w cy ad h n) s.heap.size)) (n0 := n) (z0 := z) (q0 := q) (ad0 := ad) (e := e) (below := below) ⟨Nat.le_refl _, Nat.le_refl _⟩ ⟨Nat.le_refl _, Nat.le_refl _⟩ hx hb hml (fun hi => by rw [hin]; exact eq_of_beq hi) (fun w hw => (List.mem_append.mp hw).elim (fun q => hts w (List.mem_cons_of_mem _ q)) (fun q => (G.2.2.2.2.2.2.2.2 w q).1 _ _ (hXs w q))) hXs (by rw [← g2]; exact hown) G hK hA ih (fun _ _ _ _ _ _ _ _ _ _ _ h => by cases h) (fun i len pc st ad1 H1 locs1 ls1 hd hs hag hP1 hD1 hS1 => ia_ret_ok hx hb hr hlocks hd hs hag hP1 hD1 hS1) F 0 (lv_args 0 as) [] h n z q hc (Nat.le_refl _) (Nat.le_refl _) (Nat.le_refl _) ad s.heap [] ls ia_ag.rf hP hD hS hE hl
        rw [Nat.sub_self, Nat.sub_self] at this
        exact this
      · cases hc
end IF
