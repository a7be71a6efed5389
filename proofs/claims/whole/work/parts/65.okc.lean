/-! Every reference of the heap is one of its cells: calls. -/
section QB
theorem okS_m {n n' : Nat} (h : n ≤ n') {st : List Value} (H : okS n st) : okS n' st := List.all_eq_true.mpr (fun v hv => okv_m h (List.all_eq_true.mp H v hv))
theorem okL_m {n n' : Nat} (h : n ≤ n') {lv : List (Nat × Value)} (H : okL n lv) : okL n' lv := List.all_eq_true.mpr (fun v hv => okv_m h (List.all_eq_true.mp H v hv))
theorem new_ok {n : Nat} : ia_okv (n + 1) (.ref n) = true := by
  simp only [ia_okv, Bool.or_eq_true, decide_eq_true_eq]
  exact Or.inl (Nat.lt_succ_self n)
theorem def_ok (n : Nat) (t : FieldType) : ia_okv n (defaultValue t) = true := by
  cases t <;> rfl
theorem mk_ok {P : ia_T} {own : Nat} {i : Instr} {len n k : Nat} {st st' : List Value} {e : va_E} (h : ia_mk P own i len st n = some (st', e, k)) (H : okS n st) : okS (n + 1) st' ∧ ia_oke (n + 1) e = true := by
  unfold ia_mk at h
  split at h
  · split at h
    · split at h
      · cases h
        refine ⟨okS_c.mpr ⟨new_ok, okS_m (Nat.le_succ n) H⟩, List.all_eq_true.mpr (fun v hv => ?_)⟩
        obtain ⟨j, -, rfl⟩ := List.mem_map.mp hv
        exact def_ok _ _
      · cases h
    · cases h
  all_goals first
    | (split at h
       · cases h
         refine ⟨okS_c.mpr ⟨new_ok, okS_m (Nat.le_succ n) (okS_t H)⟩, ?_⟩
         first | rfl | exact List.all_eq_true.mpr (fun _ _ => rfl)
       · cases h)
    | (cases h; done)
theorem prim_ok {P : ia_T} {own : Nat} {i : Instr} {len n : Nat} {st st' : List Value} {h h' : Nat → va_E} (e : ia_prim P own i len st h n = some (st', h')) (Hh : ia_okh h n = true) (H : okS n st) : okS n st' ∧ ia_okh h' n = true := by
  unfold ia_prim at e
  split at e
  · split at e
    · split at e
      · cases e; exact ⟨okS_t H, Hh⟩
      · cases e
    · cases e
  · split at e
    · split at e
      · split at e
        · split at e
          · cases e; exact ⟨okS_t (okS_t (okS_t (okS_t (okS_t H)))), okh_up Hh rfl⟩
          · cases e
        · cases e
      · cases e
    all_goals first
      | (split at e <;> first | (cases e; done) | (cases e; exact ⟨okS_i (okS_t (okS_t H)), Hh⟩) | (cases e; exact ⟨okS_i (okS_t H), Hh⟩) | (cases e; exact ⟨okS_l (okS_t (okS_t H)), Hh⟩))
      | (cases e; done)
  · cases e
theorem take_ok {n k : Nat} {st : List Value} (H : okS n st) : okS n (st.take k).reverse := List.all_eq_true.mpr (fun v hv => List.all_eq_true.mp H v (List.mem_of_mem_take (List.mem_reverse.mp hv)))
theorem drop_ok {n k : Nat} {st : List Value} (H : okS n st) : okS n (st.drop k) := List.all_eq_true.mpr (fun v hv => List.all_eq_true.mp H v (List.mem_of_mem_drop hv))
theorem drop_eq {n k : Nat} {st r : List Value} (H : okS n st) (q : st.drop k = r) : okS n r := q ▸ drop_ok H
theorem inv_ok {P : ia_T} {own : Nat} {i : Instr} {len n k kd : Nat} {st as rest : List Value} {h : Nat → va_E} (e : ia_inv P own i len st h n = some (k, kd, as, rest)) (H : okS n st) : okS n as ∧ okS n rest := by
  unfold ia_inv at e
  split at e
  · split at e
    · split at e
      · split at e
        · cases e; exact ⟨take_ok H, drop_ok H⟩
        · cases e
      · cases e
    · cases e
  · split at e
    · split at e
      · split at e
        · split at e
          · next q =>
            split at e
            · split at e
              · cases e
                have := drop_eq H q
                exact ⟨okS_c.mpr ⟨(okS_c.mp this).1, take_ok H⟩, okS_t this⟩
              · cases e
            · cases e
          · cases e
        · cases e
      · cases e
    · cases e
  · split at e
    · split at e
      · split at e
        · split at e
          · next q =>
            cases e
            have := drop_eq H q
            exact ⟨okS_c.mpr ⟨(okS_c.mp this).1, take_ok H⟩, okS_t this⟩
          · cases e
        · cases e
      · cases e
    · cases e
  · cases e
theorem cln_ok {P : ia_T} {own : Nat} {i : Instr} {len n k : Nat} {st st' : List Value} {h : Nat → va_E} {x : va_E} (e : ia_cln P own i len st h n = some (st', x, k)) (H : okS n st) : okS (n + 1) st' ∧ ia_oke (n + 1) x = true := by
  unfold ia_cln at e
  split at e
  · split at e
    · split at e
      · cases e
        exact ⟨okS_c.mpr ⟨new_ok, okS_m (Nat.le_succ n) (okS_t H)⟩, rfl⟩
      · cases e
    · cases e
  · cases e
theorem ret_ok {i : Instr} {len n : Nat} {ret : Option FieldType} {st : List Value} {v : Option Value} (e : ia_ret i len ret st = some v) (H : okS n st) : ∀ x, v = some x → ia_okv n x = true := by
  unfold ia_ret at e
  split at e
  all_goals first
    | (cases e; intro x hx; cases hx; first | rfl | exact (okS_c.mp H).1)
    | (cases e; intro x hx; cases hx; done)
    | (split at e
       · cases e
         intro x hx
         cases hx
         rfl
       · cases e)
    | (cases e; done)
def okH (hp : ia_H) : Prop := ia_okh hp.1 hp.2.1 = true
def okR (hp : ia_H) (v : Option Value) (hp' : ia_H) : Prop := okH hp' ∧ hp.2.1 ≤ hp'.2.1 ∧ ∀ x, v = some x → ia_okv hp'.2.1 x = true
theorem lp_ok {P : ia_T} (G : gdT P) {cal : Nat → List Value → ia_H → Option (Option Value × ia_H)} (hcal : ∀ k as hp v hp', okH hp → okS hp.2.1 as → cal k as hp = some (v, hp') → okR hp v hp') {own nL : Nat} {ini : Bool} {cc : ByteArray} {ret : Option FieldType} :
    ∀ (f pc : Nat) (lv : List (Nat × Value)) (st : List Value) (hp : ia_H) (v : Option Value) (hp' : ia_H), okH hp → okL hp.2.1 lv → okS hp.2.1 st → ia_lp P cal ia_nx own ini cc nL ret f pc lv st hp = some (v, hp') → okR hp v hp' := by
  intro f
  induction f with
  | zero => intro pc lv st hp v hp' _ _ _ h; cases h
  | succ f ih =>
    intro pc lv st hp v hp' Hh HL HS h
    cases hd : decode cc pc with
    | error e => rw [ia_lp, hd] at h; cases h
    | ok p =>
      obtain ⟨i, len⟩ := p
      rcases (show ia_kind i = 0 ∨ ia_kind i = 1 ∨ ia_kind i = 2 ∨ ia_kind i = 3 ∨ ia_kind i = 4 ∨ ia_kind i = 5 ∨ ia_kind i = 6 ∨ 7 ≤ ia_kind i by omega) with hk | hk | hk | hk | hk | hk | hk | hk
      · rw [ia_lp_0 hd hk] at h
        cases hs : ia_num i len st with
        | none => rw [hs] at h; cases h
        | some st' => rw [hs] at h; exact ih _ _ _ _ _ _ Hh HL (num_ok hs HS) h
      · rw [ia_lp_1 hd hk] at h
        cases hs : ia_loc i len nL lv st with
        | none => rw [hs] at h; cases h
        | some q =>
          obtain ⟨lv', st'⟩ := q
          rw [hs] at h
          have := loc_ok hs HL HS
          exact ih _ _ _ _ _ _ Hh this.1 this.2 h
      · rw [ia_lp_2 hd hk] at h
        cases hs : ia_br i len pc st with
        | none => rw [hs] at h; cases h
        | some q =>
          obtain ⟨pc', st'⟩ := q
          rw [hs] at h
          exact ih _ _ _ _ _ _ Hh HL (br_ok hs HS) h
      · rw [ia_lp_3 hd hk] at h
        cases hs : ia_rd P own i len st hp.1 hp.2.1 with
        | none => rw [hs] at h; cases h
        | some st' => rw [hs] at h; exact ih _ _ _ _ _ _ Hh HL (rd_ok G hs Hh HS) h
      · rw [ia_lp_4 hd hk] at h
        cases hs : ia_wr P own ini i len st hp.1 hp.2.1 with
        | none => rw [hs] at h; cases h
        | some q =>
          obtain ⟨st', h'⟩ := q
          rw [hs] at h
          have := wr_ok hs Hh HS
          exact ih _ _ _ (h', hp.2) _ _ this.2 HL this.1 h
      · rw [ia_lp_5 hd hk] at h
        cases hs : ia_mk P own i len st hp.2.1 with
        | none => rw [hs] at h; cases h
        | some q =>
          obtain ⟨st', e, z⟩ := q
          rw [hs] at h
          dsimp only at h
          split at h
          · have := mk_ok hs HS
            have r := ih _ _ _ (va_up hp.1 hp.2.1 e, hp.2.1 + 1, hp.2.2.1 + 1, hp.2.2.2 + z) _ _ (okh_new Hh this.2) (okL_m (Nat.le_succ _) HL) this.1 h
            exact ⟨r.1, Nat.le_trans (Nat.le_succ _) r.2.1, r.2.2⟩
          · cases h
      · rw [ia_lp_6 hd hk] at h
        have nx : ia_nx pc st hp = none := rfl
        rw [nx] at h
        dsimp only at h
        cases hs : ia_prim P own i len st hp.1 hp.2.1 with
        | some q =>
          obtain ⟨st', h'⟩ := q
          rw [hs] at h
          have := prim_ok hs Hh HS
          exact ih _ _ _ (h', hp.2) _ _ this.2 HL this.1 h
        | none =>
          rw [hs] at h
          dsimp only at h
          cases hi : ia_inv P own i len st hp.1 hp.2.1 with
          | some z =>
            obtain ⟨k, kd, as, rest⟩ := z
            rw [hi] at h
            dsimp only at h
            split at h
            · cases hc : cal k as hp with
              | none => rw [hc] at h; cases h
              | some w =>
                obtain ⟨v1, hp1⟩ := w
                rw [hc] at h
                have io := inv_ok hi HS
                have r1 := hcal k as hp v1 hp1 Hh io.1 hc
                have os : okS hp1.2.1 (v1.toList ++ rest) := by
                  cases v1 with
                  | none => exact okS_m r1.2.1 io.2
                  | some x => exact okS_c.mpr ⟨r1.2.2 x rfl, okS_m r1.2.1 io.2⟩
                have r := ih _ _ _ hp1 _ _ r1.1 (okL_m r1.2.1 HL) os h
                exact ⟨r.1, Nat.le_trans r1.2.1 r.2.1, r.2.2⟩
            · cases h
          | none =>
            rw [hi] at h
            dsimp only at h
            cases hn : ia_cln P own i len st hp.1 hp.2.1 with
            | none => rw [hn] at h; cases h
            | some w =>
              obtain ⟨st', e, z⟩ := w
              rw [hn] at h
              dsimp only at h
              split at h
              · have := cln_ok hn HS
                have r := ih _ _ _ (va_up hp.1 hp.2.1 e, hp.2.1 + 1, hp.2.2.1 + 1, hp.2.2.2 + z) _ _ (okh_new Hh this.2) (okL_m (Nat.le_succ _) HL) this.1 h
                exact ⟨r.1, Nat.le_trans (Nat.le_succ _) r.2.1, r.2.2⟩
              · cases h
      · rw [ia_lp_7 hd hk] at h
        cases hs : ia_ret i len ret st with
        | none => rw [hs] at h; cases h
        | some w =>
          rw [hs] at h
          cases h
          exact ⟨Hh, Nat.le_refl _, ret_ok hs HS⟩
theorem args_ok {n : Nat} : ∀ (as : List Value) (k : Nat), okS n as → okL n (lv_args k as)
  | [], k, _ => rfl
  | v :: as, k, h => by
    have ih := fun j => args_ok as j (okS_t h)
    unfold lv_args
    first
      | exact List.all_eq_true.mpr (fun q hq => by
          rcases List.mem_cons.mp hq with rfl | hq
          · exact (okS_c.mp h).1
          · exact List.all_eq_true.mp (ih _) q hq)
theorem call_ok {P : ia_T} (G : gdT P) {F : Nat} : ∀ (d k : Nat) (as : List Value) (hp : ia_H) (v : Option Value) (hp' : ia_H), okH hp → okS hp.2.1 as → ia_call P F d k as hp = some (v, hp') → okR hp v hp' := by
  intro d
  induction d with
  | zero => intro k as hp v hp' _ _ h; cases h
  | succ d ih =>
    intro k as hp v hp' Hh HS h
    unfold ia_call at h
    cases hm : ia_mt P k with
    | none => rw [hm] at h; cases h
    | some q =>
      obtain ⟨own, y, cc, nL, ret, np⟩ := q
      rw [hm] at h
      dsimp only at h
      split at h
      · exact lp_ok G (fun k as hp v hp' a b c => ih k as hp v hp' a b c) _ _ _ _ _ _ _ Hh (args_ok as 0 HS) rfl h
      · cases h
theorem zC.ok {P : ia_T} (G : gdT P) {d k : Nat} {as : List Value} {hp : ia_H} {Q : Option Value → ia_H → Prop} (Hh : okH hp) (HS : okS hp.2.1 as) (h : zC P d k as hp Q) : zC P d k as hp (fun v hp' => Q v hp' ∧ okH hp') := by
  obtain ⟨F, v, hp', h, q⟩ := h
  exact ⟨F, v, hp', h, q, (call_ok G d k as hp v hp' Hh HS h).1⟩
theorem lk_all {α : Type} {p : α → Prop} : ∀ (l : List (Nat × α)) (k : Nat) (r : α), (∀ q ∈ l, p q.2) → ia_lk l k = some r → p r
  | [], k, r, _, h => by cases h
  | q :: l, k, r, hp, h => by
    unfold ia_lk at h
    split at h
    · cases h
      exact hp q List.mem_cons_self
    · exact lk_all l k r (fun z hz => hp z (List.mem_cons_of_mem _ hz)) h
theorem gdT_0 (L : Nat) (xs : Nat → Int32) (fm : Bool) : gdT (ia_P0 L xs fm) := by
  have cK : ia_LK.all (fun q => ia_okv 0 q.2.1) = true := rfl
  have cS : ia_LS.all (fun q => ia_okv 0 q.2.1) = true := rfl
  have cH : ia_hcL.all (fun q => ia_oke 0 q.2) = true := rfl
  refine ⟨fun own x v h => ?_, fun own x v h => ?_, fun a => ?_⟩
  · replace h : ia_tK0 own x = some v := h
    unfold ia_tK0 at h
    split at h
    · cases hl : ia_lk ia_LK (own * 100000 + x) with
      | none => rw [hl] at h; cases h
      | some r =>
        rw [hl] at h
        cases h
        exact lk_all (p := fun r => ia_okv 0 r.1 = true) ia_LK _ r (fun q hq => List.all_eq_true.mp cK q hq) hl
    · cases h
  · replace h : ia_tS0 (zfm fm) own x = some v := h
    unfold ia_tS0 at h
    split at h
    · cases h
      cases fm <;> rfl
    · split at h
      · cases hl : ia_lk ia_LS (own * 100000 + x) with
        | none => rw [hl] at h; cases h
        | some r =>
          rw [hl] at h
          cases h
          exact lk_all (p := fun r => ia_okv 0 r.1 = true) ia_LS _ r (fun q hq => List.all_eq_true.mp cS q hq) hl
      · cases h
  · show ia_oke 0 (ia_hc0 L xs a) = true
    unfold ia_hc0
    split
    · rfl
    · cases hl : ia_lk ia_hcL a with
      | none => rfl
      | some r => exact lk_all (p := fun r => ia_oke 0 r = true) ia_hcL _ r (fun q hq => List.all_eq_true.mp cH q hq) hl
end QB
