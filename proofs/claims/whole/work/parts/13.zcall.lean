/-! calls over a side's state; fewer locals; rows copied -/
section ZD
/-- locals: those that a later place needs, in its order -/
def zpick (lv : List (Nat × Value)) (ks : List Nat) : List (Nat × Value) := ks.filterMap (fun k => lv[k]?)
/-- lv holds what lv' holds, and else numbers alone -/
def zle (lv' lv : List (Nat × Value)) : Prop := (∀ i v, ia_get lv' i = some v → ia_get lv i = some v) ∧ ∀ q ∈ lv, (∀ n, ia_okv n q.2 = true) ∨ q ∈ lv'
def zkeys (lv : List (Nat × Value)) : List Nat := lv.map (fun q => q.1)
theorem ia_get_mem {lv : List (Nat × Value)} (hu : va_nd (zkeys lv) = true) {i : Nat} {v : Value} (h : (i, v) ∈ lv) : ia_get lv i = some v := by
  induction lv with
  | nil => cases h
  | cons q lv ih =>
    unfold zkeys at hu
    rw [List.map_cons] at hu
    unfold va_nd at hu
    simp only [Bool.and_eq_true, decide_eq_true_eq] at hu
    unfold ia_get
    rcases List.mem_cons.mp h with h | h
    · subst h
      simp
    · have hne : ¬ q.1 = i := fun e => hu.1 (List.mem_map.mpr ⟨(i, v), h, e.symm⟩)
      have h2 := ih hu.2 h
      unfold ia_get at h2
      simp only [List.find?_cons, beq_iff_eq]
      rw [show (q.1 == i) = false from by simp [hne]]
      exact h2
theorem va_nd_filter (p : Nat × Value → Bool) : ∀ lv : List (Nat × Value), va_nd (zkeys lv) = true → va_nd (zkeys (lv.filter p)) = true
  | [], _ => rfl
  | q :: lv, h => by
    unfold zkeys at h
    rw [List.map_cons] at h
    unfold va_nd at h
    simp only [Bool.and_eq_true, decide_eq_true_eq] at h
    have ih := va_nd_filter p lv h.2
    rw [List.filter_cons]
    split
    · unfold zkeys
      rw [List.map_cons]
      unfold va_nd
      simp only [Bool.and_eq_true, decide_eq_true_eq]
      refine ⟨fun hm => h.1 ?_, ih⟩
      obtain ⟨z, hz, he⟩ := List.mem_map.mp hm
      exact List.mem_map.mpr ⟨z, (List.mem_filter.mp hz).1, he⟩
    · exact ih
/-- both lists have each place once -/
def zok (n0 : Nat) (lv' lv : List (Nat × Value)) : Prop := va_nd (zkeys lv') = true ∧ va_nd (zkeys lv) = true ∧ (∀ q ∈ lv', q ∈ lv) ∧ ∀ q ∈ lv, (∀ n, n0 ≤ n → ia_okv n q.2 = true) ∨ q ∈ lv'
theorem zok.get {n0 : Nat} {lv' lv : List (Nat × Value)} (h : zok n0 lv' lv) {i : Nat} {v : Value} (hg : ia_get lv' i = some v) : ia_get lv i = some v := ia_get_mem h.2.1 (h.2.2.1 _ (ia_get_at hg))
theorem zok.set {n0 : Nat} {lv' lv : List (Nat × Value)} (h : zok n0 lv' lv) (i : Nat) (v : Value) (p : Nat × Value → Bool) (hp : ∀ q, p q = true → q.1 ≠ i) : zok n0 ((i, v) :: lv'.filter p) ((i, v) :: lv.filter p) := by
  have nd : ∀ l : List (Nat × Value), va_nd (zkeys l) = true → va_nd (zkeys ((i, v) :: l.filter p)) = true := fun l hl => by
    unfold zkeys
    rw [List.map_cons]
    unfold va_nd
    simp only [Bool.and_eq_true, decide_eq_true_eq]
    refine ⟨fun hm => ?_, va_nd_filter p l hl⟩
    obtain ⟨z, hz, he⟩ := List.mem_map.mp hm
    exact hp z (List.mem_filter.mp hz).2 he
  refine ⟨nd lv' h.1, nd lv h.2.1, fun q hq => ?_, fun q hq => ?_⟩
  · rcases List.mem_cons.mp hq with rfl | hq
    · exact List.mem_cons_self
    · have := List.mem_filter.mp hq
      exact List.mem_cons_of_mem _ (List.mem_filter.mpr ⟨h.2.2.1 q this.1, this.2⟩)
  · rcases List.mem_cons.mp hq with rfl | hq
    · exact Or.inr List.mem_cons_self
    · have := List.mem_filter.mp hq
      rcases h.2.2.2 q this.1 with h1 | h1
      · exact Or.inl h1
      · exact Or.inr (List.mem_cons_of_mem _ (List.mem_filter.mpr ⟨h1, this.2⟩))
theorem zok.oks {n0 : Nat} {lv' lv : List (Nat × Value)} (h : zok n0 lv' lv) {n : Nat} {st : List Value} (hn : n0 ≤ n) (ho : ia_oks n lv' st = true) : ia_oks n lv st = true := by
  simp only [ia_oks, Bool.and_eq_true] at ho ⊢
  refine ⟨List.all_eq_true.mpr (fun q hq => ?_), ho.2⟩
  rcases h.2.2.2 q hq with h1 | h1
  · exact h1 n hn
  · exact List.all_eq_true.mp ho.1 q h1
theorem zok.loc {n0 : Nat} {lv' lv : List (Nat × Value)} (h : zok n0 lv' lv) {i : Instr} {len nL : Nat} {st : List Value} {lw : List (Nat × Value)} {st' : List Value} (hs : ia_loc i len nL lv' st = some (lw, st')) : ∃ lw2, ia_loc i len nL lv st = some (lw2, st') ∧ zok n0 lw lw2 := by
  have hp1 : ∀ (j : Nat) (q : Nat × Value), (!(q.1 == j) && !(q.1 + 1 == j && q.2.category == 2)) = true → q.1 ≠ j := fun j q hq => by
    simp only [Bool.and_eq_true, Bool.not_eq_true', beq_eq_false_iff_ne] at hq
    exact hq.1
  have hp2 : ∀ (j : Nat) (q : Nat × Value), (!(q.1 == j) && (!(q.1 == j + 1) && !(q.1 + 1 == j && q.2.category == 2))) = true → q.1 ≠ j := fun j q hq => by
    simp only [Bool.and_eq_true, Bool.not_eq_true', beq_eq_false_iff_ne] at hq
    exact hq.1
  unfold ia_loc at hs ⊢
  split at hs
  · unfold ia_ldi at hs ⊢; split at hs
    · next hg => cases hs; rw [h.get hg]; exact ⟨_, rfl, h⟩
    · cases hs
  · unfold ia_ldi at hs ⊢; split at hs
    · next hg => cases hs; rw [h.get hg]; exact ⟨_, rfl, h⟩
    · cases hs
  · unfold ia_ldl at hs ⊢; split at hs
    · next hg => cases hs; rw [h.get hg]; exact ⟨_, rfl, h⟩
    · cases hs
  · unfold ia_ldl at hs ⊢; split at hs
    · next hg => cases hs; rw [h.get hg]; exact ⟨_, rfl, h⟩
    · cases hs
  · unfold ia_lda at hs ⊢; split at hs
    · next hg => cases hs; rw [h.get hg]; exact ⟨_, rfl, h⟩
    · next hg => cases hs; rw [h.get hg]; exact ⟨_, rfl, h⟩
    · cases hs
  · unfold ia_lda at hs ⊢; split at hs
    · next hg => cases hs; rw [h.get hg]; exact ⟨_, rfl, h⟩
    · next hg => cases hs; rw [h.get hg]; exact ⟨_, rfl, h⟩
    · cases hs
  · split at hs
    · next hn => cases hs; rw [if_pos hn]; exact ⟨_, rfl, h.set _ _ _ (hp1 _)⟩
    · cases hs
  · split at hs
    · next hn => cases hs; rw [if_pos hn]; exact ⟨_, rfl, h.set _ _ _ (hp1 _)⟩
    · cases hs
  · split at hs
    · next hn => cases hs; rw [if_pos hn]; exact ⟨_, rfl, h.set _ _ _ (hp2 _)⟩
    · cases hs
  · split at hs
    · next hn => cases hs; rw [if_pos hn]; exact ⟨_, rfl, h.set _ _ _ (hp2 _)⟩
    · cases hs
  · split at hs
    · next hn => cases hs; rw [if_pos hn]; exact ⟨_, rfl, h.set _ _ _ (hp1 _)⟩
    · cases hs
  · split at hs
    · next hn => cases hs; rw [if_pos hn]; exact ⟨_, rfl, h.set _ _ _ (hp1 _)⟩
    · cases hs
  · split at hs
    · next hn => cases hs; rw [if_pos hn]; exact ⟨_, rfl, h.set _ _ _ (hp1 _)⟩
    · cases hs
  · split at hs
    · next hn => cases hs; rw [if_pos hn]; exact ⟨_, rfl, h.set _ _ _ (hp1 _)⟩
    · cases hs
  · split at hs
    · next hg =>
      split at hs
      · next hn => cases hs; rw [h.get hg]; dsimp only; rw [if_pos hn]; exact ⟨_, rfl, h.set _ _ _ (hp1 _)⟩
      · cases hs
    · cases hs
  · split at hs
    · next hg =>
      split at hs
      · next hn => cases hs; rw [h.get hg]; dsimp only; rw [if_pos hn]; exact ⟨_, rfl, h.set _ _ _ (hp1 _)⟩
      · cases hs
    · cases hs
  · cases hs
theorem ia_lp_sub {P : ia_T} {cal : Nat → List Value → ia_H → Option (Option Value × ia_H)} {ex : Nat → List Value → ia_H → Option (List Value × ia_H)} {own nL n0 : Nat} {ini : Bool} {cc : ByteArray} {ret : Option FieldType} (hcc : ∀ k as hp w, cal k as hp = some w → n0 ≤ hp.2.1 → n0 ≤ w.2.2.1) (hex : ∀ k st hp w, ex k st hp = some w → n0 ≤ hp.2.1 → n0 ≤ w.2.2.1) :
    ∀ (f pc : Nat) (lv' lv : List (Nat × Value)) (st : List Value) (hp : ia_H) (r : Option Value × ia_H), n0 ≤ hp.2.1 → zok n0 lv' lv → ia_lp P cal ex own ini cc nL ret f pc lv' st hp = some r → ia_lp P cal ex own ini cc nL ret f pc lv st hp = some r := by
  intro f
  induction f with
  | zero => intro pc lv' lv st hp r _ _ h; cases h
  | succ f ih =>
    intro pc lv' lv st hp r hn0 hz h
    cases hd : decode cc pc with
    | error e => rw [ia_lp, hd] at h; cases h
    | ok p =>
      obtain ⟨i, len⟩ := p
      rcases (show ia_kind i = 0 ∨ ia_kind i = 1 ∨ ia_kind i = 2 ∨ ia_kind i = 3 ∨ ia_kind i = 4 ∨ ia_kind i = 5 ∨ ia_kind i = 6 ∨ 7 ≤ ia_kind i by omega) with hk | hk | hk | hk | hk | hk | hk | hk
      · rw [ia_lp_0 hd hk] at h ⊢
        cases hs : ia_num i len st with
        | none => rw [hs] at h; cases h
        | some st' => rw [hs] at h; exact ih _ _ _ _ _ _ hn0 hz h
      · rw [ia_lp_1 hd hk] at h ⊢
        cases hs : ia_loc i len nL lv' st with
        | none => rw [hs] at h; cases h
        | some w =>
          rw [hs] at h
          obtain ⟨lw, st'⟩ := w
          obtain ⟨lw2, e2, hz2⟩ := hz.loc hs
          rw [e2]
          exact ih _ _ _ _ _ _ hn0 hz2 h
      · rw [ia_lp_2 hd hk] at h ⊢
        cases hs : ia_br i len pc st with
        | none => rw [hs] at h; cases h
        | some st' => rw [hs] at h; exact ih _ _ _ _ _ _ hn0 hz h
      · rw [ia_lp_3 hd hk] at h ⊢
        cases hs : ia_rd P own i len st hp.1 hp.2.1 with
        | none => rw [hs] at h; cases h
        | some st' => rw [hs] at h; exact ih _ _ _ _ _ _ hn0 hz h
      · rw [ia_lp_4 hd hk] at h ⊢
        cases hs : ia_wr P own ini i len st hp.1 hp.2.1 with
        | none => rw [hs] at h; cases h
        | some st' => rw [hs] at h; exact ih _ _ _ _ _ _ hn0 hz h
      · rw [ia_lp_5 hd hk] at h ⊢
        cases hs : ia_mk P own i len st hp.2.1 with
        | none => rw [hs] at h; cases h
        | some st' =>
          rw [hs] at h
          dsimp only at h ⊢
          split at h
          · next hq => rw [if_pos ⟨hq.1, hz.oks hn0 hq.2.1, hq.2.2⟩]; exact ih _ _ _ _ _ _ (Nat.le_succ_of_le hn0) hz h
          · cases h
      · rw [ia_lp_6 hd hk] at h ⊢
        cases hxx : ex pc st hp with
        | some w => rw [hxx] at h; exact ih _ _ _ _ _ _ (hex _ _ _ _ hxx hn0) hz h
        | none =>
        rw [hxx] at h
        dsimp only at h ⊢
        cases hs : ia_prim P own i len st hp.1 hp.2.1 with
        | some st' => rw [hs] at h; exact ih _ _ _ _ _ _ hn0 hz h
        | none =>
          rw [hs] at h
          dsimp only at h ⊢
          cases hi : ia_inv P own i len st hp.1 hp.2.1 with
          | some z =>
            rw [hi] at h
            dsimp only at h ⊢
            split at h
            · next hq =>
              rw [if_pos ⟨hz.oks hn0 hq.1, hq.2⟩]
              cases hc : cal z.1 z.2.2.1 hp with
              | none => rw [hc] at h; cases h
              | some w => rw [hc] at h; exact ih _ _ _ _ _ _ (hcc _ _ _ _ hc hn0) hz h
            · cases h
          | none =>
            rw [hi] at h
            dsimp only at h ⊢
            cases hn : ia_cln P own i len st hp.1 hp.2.1 with
            | none => rw [hn] at h; cases h
            | some w =>
              rw [hn] at h
              dsimp only at h ⊢
              split at h
              · next hq => rw [if_pos ⟨hq.1, hz.oks hn0 hq.2.1, hq.2.2⟩]; exact ih _ _ _ _ _ _ (Nat.le_succ_of_le hn0) hz h
              · cases h
      · rw [ia_lp_7 hd hk] at h ⊢
        exact h
/-- fewer locals, in any order: by their places; those left out are numbers -/
theorem zW.sub {P : ia_T} {ex : Nat → List Value → ia_H → Option (List Value × ia_H)} {d own pc nL : Nat} {ini : Bool} {cc : ByteArray} {ret : Option FieldType} {lv lv' : List (Nat × Value)} {st : List Value} {hp : ia_H} {Q : Option Value → ia_H → Prop} (h : zW P ex d own ini cc nL ret pc lv' st hp Q) (ks : List Nat) (hk : zpick lv ks = lv') (h1 : va_nd (zkeys lv') = true) (h2 : va_nd (zkeys lv) = true) (h3 : (lv.all (fun q => match q.2 with
  | .ref _ => (zkeys lv').contains q.1
  | _ => true)) = true) : zW P ex d own ini cc nL ret pc lv st hp Q := by
  obtain ⟨F, f, v, hp', h, q⟩ := h
  refine ⟨F, f, v, hp', ia_lp_sub (n0 := 0) (fun _ _ _ _ _ _ => Nat.zero_le _) (fun _ _ _ _ _ _ => Nat.zero_le _) _ _ _ _ _ _ _ (Nat.zero_le _) ⟨h1, h2, fun z hz => ?_, fun z hz => ?_⟩ h, q⟩
  · rw [← hk] at hz
    obtain ⟨k, -, hk⟩ := List.mem_filterMap.mp hz
    exact List.mem_of_getElem? hk
  · have h4 := List.all_eq_true.mp h3 z hz
    obtain ⟨i, w⟩ := z
    cases w with
    | ref a =>
      right
      have h5 : i ∈ zkeys lv' := by simpa using h4
      obtain ⟨y, hy, he⟩ := List.mem_map.mp h5
      have hy2 : y ∈ lv := by
        rw [← hk] at hy
        obtain ⟨k, -, hk⟩ := List.mem_filterMap.mp hy
        exact List.mem_of_getElem? hk
      obtain ⟨i2, w2⟩ := y
      dsimp only at he
      subst he
      have e1 := ia_get_mem h2 hy2
      have e2 := ia_get_mem h2 hz
      cases e1.symm.trans e2
      exact hy
    | _ => exact Or.inl (fun n _ => rfl)
theorem ia_okv_le {m n : Nat} {v : Value} (hm : m ≤ n) (h : ia_okv m v = true) : ia_okv n v = true := by
  cases v with
  | ref a => simp only [ia_okv, Bool.or_eq_true, decide_eq_true_eq] at h ⊢; exact h.imp (fun z => Nat.lt_of_lt_of_le z hm) id
  | _ => rfl
theorem ia_lp_ge {P : ia_T} {cal : Nat → List Value → ia_H → Option (Option Value × ia_H)} {own nL : Nat} {ini : Bool} {cc : ByteArray} {ret : Option FieldType} (hcc : ∀ k as hp w, cal k as hp = some w → hp.2.1 ≤ w.2.2.1) :
    ∀ (f pc : Nat) (lv : List (Nat × Value)) (st : List Value) (hp : ia_H) (r : Option Value × ia_H), ia_lp P cal ia_nx own ini cc nL ret f pc lv st hp = some r → hp.2.1 ≤ r.2.2.1 := by
  intro f
  induction f with
  | zero => intro pc lv st hp r h; cases h
  | succ f ih =>
    intro pc lv st hp r h
    cases hd : decode cc pc with
    | error e => rw [ia_lp, hd] at h; cases h
    | ok p =>
      obtain ⟨i, len⟩ := p
      rcases (show ia_kind i = 0 ∨ ia_kind i = 1 ∨ ia_kind i = 2 ∨ ia_kind i = 3 ∨ ia_kind i = 4 ∨ ia_kind i = 5 ∨ ia_kind i = 6 ∨ 7 ≤ ia_kind i by omega) with hk | hk | hk | hk | hk | hk | hk | hk
      · rw [ia_lp_0 hd hk] at h
        cases hs : ia_num i len st with
        | none => rw [hs] at h; cases h
        | some st' => rw [hs] at h; exact ih _ _ _ _ _ h
      · rw [ia_lp_1 hd hk] at h
        cases hs : ia_loc i len nL lv st with
        | none => rw [hs] at h; cases h
        | some w => rw [hs] at h; exact ih _ _ _ _ _ h
      · rw [ia_lp_2 hd hk] at h
        cases hs : ia_br i len pc st with
        | none => rw [hs] at h; cases h
        | some st' => rw [hs] at h; exact ih _ _ _ _ _ h
      · rw [ia_lp_3 hd hk] at h
        cases hs : ia_rd P own i len st hp.1 hp.2.1 with
        | none => rw [hs] at h; cases h
        | some st' => rw [hs] at h; exact ih _ _ _ _ _ h
      · rw [ia_lp_4 hd hk] at h
        cases hs : ia_wr P own ini i len st hp.1 hp.2.1 with
        | none => rw [hs] at h; cases h
        | some st' => rw [hs] at h; exact ih _ _ _ (st'.2, hp.2) _ h
      · rw [ia_lp_5 hd hk] at h
        cases hs : ia_mk P own i len st hp.2.1 with
        | none => rw [hs] at h; cases h
        | some st' =>
          rw [hs] at h
          dsimp only at h
          split at h
          · exact Nat.le_trans (Nat.le_succ _) (ih _ _ _ _ _ h)
          · cases h
      · rw [ia_lp_6 hd hk] at h
        dsimp only [ia_nx] at h
        cases hs : ia_prim P own i len st hp.1 hp.2.1 with
        | some st' => rw [hs] at h; exact ih _ _ _ (st'.2, hp.2) _ h
        | none =>
          rw [hs] at h
          dsimp only at h
          cases hi : ia_inv P own i len st hp.1 hp.2.1 with
          | some z =>
            rw [hi] at h
            dsimp only at h
            split at h
            · cases hc : cal z.1 z.2.2.1 hp with
              | none => rw [hc] at h; cases h
              | some w => rw [hc] at h; exact Nat.le_trans (hcc _ _ _ _ hc) (ih _ _ _ _ _ h)
            · cases h
          | none =>
            rw [hi] at h
            dsimp only at h
            cases hn : ia_cln P own i len st hp.1 hp.2.1 with
            | none => rw [hn] at h; cases h
            | some w =>
              rw [hn] at h
              dsimp only at h
              split at h
              · exact Nat.le_trans (Nat.le_succ _) (ih _ _ _ _ _ h)
              · cases h
      · rw [ia_lp_7 hd hk] at h
        split at h
        · cases h; exact Nat.le_refl _
        · cases h
theorem ia_call_ge {P : ia_T} {F : Nat} : ∀ (d k : Nat) (as : List Value) (hp : ia_H) (w : Option Value × ia_H), ia_call P F d k as hp = some w → hp.2.1 ≤ w.2.2.1 := by
  intro d
  induction d with
  | zero => intro k as hp w h; cases h
  | succ d ih =>
    intro k as hp w h
    rw [ia_call] at h
    split at h
    · cases h
    · split at h
      · exact ia_lp_ge (fun k as hp w q => ih k as hp w q) _ _ _ _ _ _ h
      · cases h
/-- the same, where rows are left out too -/
theorem zW.subd {P : ia_T} {d own pc nL : Nat} {ini : Bool} {cc : ByteArray} {ret : Option FieldType} {lv lv' : List (Nat × Value)} {st : List Value} {hp : ia_H} {Q : Option Value → ia_H → Prop} (h : zW P ia_nx d own ini cc nL ret pc lv' st hp Q) (ks : List Nat) (hk : zpick lv ks = lv') (h1 : va_nd (zkeys lv') = true) (h2 : va_nd (zkeys lv) = true) (h3 : ∀ q ∈ lv, ia_okv hp.2.1 q.2 = true ∨ (zkeys lv').contains q.1 = true) : zW P ia_nx d own ini cc nL ret pc lv st hp Q := by
  obtain ⟨F, f, v, hp', h, q⟩ := h
  refine ⟨F, f, v, hp', ia_lp_sub (n0 := hp.2.1) (fun k as hp w q hn => Nat.le_trans hn (ia_call_ge _ _ _ _ _ q)) (fun k st hp w q _ => by cases q) _ _ _ _ _ _ _ (Nat.le_refl _) ⟨h1, h2, fun z hz => ?_, fun z hz => ?_⟩ h, q⟩
  · rw [← hk] at hz
    obtain ⟨k, -, hk⟩ := List.mem_filterMap.mp hz
    exact List.mem_of_getElem? hk
  · rcases h3 z hz with h4 | h4
    · exact Or.inl (fun n hn => ia_okv_le hn h4)
    · right
      obtain ⟨i, w⟩ := z
      have h5 : i ∈ zkeys lv' := by simpa using h4
      obtain ⟨y, hy, he⟩ := List.mem_map.mp h5
      have hy2 : y ∈ lv := by
        rw [← hk] at hy
        obtain ⟨k, -, hk⟩ := List.mem_filterMap.mp hy
        exact List.mem_of_getElem? hk
      obtain ⟨i2, w2⟩ := y
      dsimp only at he
      subst he
      have e1 := ia_get_mem h2 hy2
      have e2 := ia_get_mem h2 hz
      cases e1.symm.trans e2
      exact hy
theorem ia_oks_le {m n : Nat} {lv : List (Nat × Value)} {st : List Value} (hm : m ≤ n) (h : ia_oks m lv st = true) : ia_oks n lv st = true := by
  simp only [ia_oks, Bool.and_eq_true] at h ⊢
  exact ⟨List.all_eq_true.mpr (fun q hq => ia_okv_le hm (List.all_eq_true.mp h.1 q hq)), List.all_eq_true.mpr (fun q hq => ia_okv_le hm (List.all_eq_true.mp h.2 q hq))⟩
section R
variable {P : ia_T} {ex : Nat → List Value → ia_H → Option (List Value × ia_H)} {d own pc nL x k ck nL' np : Nat} {ini : Bool} {cc cc' : ByteArray} {ret ret' : Option FieldType} {lv : List (Nat × Value)} {st as rest : List Value} {hp : ia_H} {Q Q1 : Option Value → ia_H → Prop} {y : MethodName}
theorem z_callS {kd : Nat} (hd : decode cc pc = .ok (.invokestatic x, 3)) (ht : ia_tM P own x = some (k, kd)) (hkd : kd = 0 ∨ kd = 3) (hm : ia_mt P k = some (ck, y, cc', nL', ret', np)) (hl : np ≤ st.length) (ha : (st.take np).reverse = as) (hr : st.drop np = rest) (ho : ia_oks hp.2.1 lv rest = true) (hc : (rest.map fun v => v.category).sum ≤ 8) (hcall : zC P d k as hp Q1)
    (kk : ∀ (v : Option Value) (hp' : ia_H), Q1 v hp' → zW P ex d own ini cc nL ret (pc + 3) lv (v.toList ++ rest) hp' Q) (hx : ex pc st hp = none := by rfl) : zW P ex d own ini cc nL ret pc lv st hp Q := by
  refine z_inv (k := k) (kd := kd) (as := as) (rest := rest) hd rfl ?_ hx ?_ ho hc hcall kk
  · unfold ia_prim
    rcases hkd with rfl | rfl <;> simp only [ht]
  · unfold ia_inv
    simp only [ht, hm]
    rw [if_pos ⟨hkd, hl⟩, ha, hr]
theorem z_callV {b ci : Nat} {fs : List Value} (hd : decode cc pc = .ok (.invokevirtual x, 3)) (ht : ia_tM P own x = some (k, 1)) (hm : ia_mt P k = some (ck, y, cc', nL', ret', np)) (hl : np ≤ st.length) (ha : (st.take np).reverse = as) (hr : st.drop np = .ref b :: rest) (hb : ia_at P hp.1 hp.2.1 b = some (.inr (ci, fs))) (hci : ci = ck) (ho : ia_oks hp.2.1 lv rest = true) (hc : (rest.map fun v => v.category).sum ≤ 8) (hcall : zC P d k (.ref b :: as) hp Q1)
    (kk : ∀ (v : Option Value) (hp' : ia_H), Q1 v hp' → zW P ex d own ini cc nL ret (pc + 3) lv (v.toList ++ rest) hp' Q) (hx : ex pc st hp = none := by rfl) : zW P ex d own ini cc nL ret pc lv st hp Q := by
  refine z_inv (k := k) (kd := 1) (as := .ref b :: as) (rest := rest) hd rfl ?_ hx ?_ ho hc hcall kk
  · unfold ia_prim
    rfl
  · unfold ia_inv
    simp only [ht, hm]
    rw [if_pos ⟨trivial, hl⟩]
    simp only [hr, hb]
    rw [if_pos hci, ha]
theorem z_recv {D : Nat → Option zD} {h0 : Nat → va_E} {S : zS} {b c1 ci l : Nat} {fds : List (Nat × Value)} (hE : zE D h0 S hp) (ha : D b = some (c1, l, fds)) (hc : c1 = 100 + ci) : ia_at P hp.1 hp.2.1 b = some (.inr (ci, zfs S b 0 fds)) := by
  rw [z_at (P := P) hE ha, z_obj hc]
theorem z_recvC {b ci : Nat} {fs : List Value} (hb : 1000000 ≤ b) (hn : hp.2.1 ≤ 1000000) (hc : ia_hc P b = .inr (ci, fs)) : ia_at P hp.1 hp.2.1 b = some (.inr (ci, fs)) := by
  unfold ia_at
  rw [if_neg (by omega), if_pos hb, hc]
theorem z_cpy {D : Nat → Option zD} {h0 : Nat → va_E} {S : zS} {a b na nb : Nat} {fa fb : List (Nat × Value)} {sp dp m : Int32} (hd : decode cc pc = .ok (.invokestatic x, 3)) (ht : ia_tM P own x = some (k, 7)) (hE : zE D h0 S hp) (ha : D a = some (0, na, fa)) (hb : D b = some (0, nb, fb)) (hc : (st.map fun v => v.category).sum ≤ 8)
    (hr : 0 ≤ sp.toInt ∧ 0 ≤ dp.toInt ∧ 0 ≤ m.toInt ∧ sp.toInt + m.toInt ≤ (na : Int) ∧ dp.toInt + m.toInt ≤ (nb : Int)) (kk : ∀ h', zE D h0 (sC S a sp.toNatClampNeg b dp.toNatClampNeg m.toNatClampNeg) (h', hp.2) → zW P ex d own ini cc nL ret (pc + 3) lv st (h', hp.2) Q) (hx : ex pc (.int m :: .int dp :: .ref b :: .int sp :: .ref a :: st) hp = none := by rfl) : zW P ex d own ini cc nL ret pc lv (.int m :: .int dp :: .ref b :: .int sp :: .ref a :: st) hp Q := by
  have hha : hp.1 a = .inl (0, na, .inl (S.1 a)) := (hE.2.1 a _ ha).2
  have hhb : hp.1 b = .inl (0, nb, .inl (S.1 b)) := (hE.2.1 b _ hb).2
  have hrow : (sC S a sp.toNatClampNeg b dp.toNatClampNeg m.toNatClampNeg).1 b = va_cpy (S.1 a) (S.1 b) sp.toNatClampNeg dp.toNatClampNeg m.toNatClampNeg := by
    funext t
    show (if b = b ∧ _ ∧ _ then _ else _) = if _ then _ else _
    by_cases h : dp.toNatClampNeg ≤ t ∧ t < dp.toNatClampNeg + m.toNatClampNeg
    · rw [if_pos ⟨rfl, h⟩, if_pos h]
    · rw [if_neg (fun q => h q.2), if_neg h]
  refine z_prim hd rfl ?_ hx (kk _ (hE.put (S' := sC S a sp.toNatClampNeg b dp.toNatClampNeg m.toNatClampNeg) (x := .inl (0, nb, .inl ((sC S a sp.toNatClampNeg b dp.toNatClampNeg m.toNatClampNeg).1 b))) hb rfl rfl (fun c hcb => ⟨?_, rfl, rfl⟩)))
  · unfold ia_prim
    simp only [ht]
    rw [if_pos ⟨hc, (hE.2.1 a _ ha).1, (hE.2.1 b _ hb).1⟩]
    simp only [hha, hhb]
    rw [if_pos hr, hrow]
  · funext t
    exact if_neg (fun q => hcb q.1)
end R
end ZD
