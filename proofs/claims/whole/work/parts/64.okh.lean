/-! Every reference of the heap is one of its cells: the pure machine keeps it so. -/
section QA
theorem okv_m {n n' : Nat} (h : n ≤ n') {v : Value} (hv : ia_okv n v = true) : ia_okv n' v = true := by
  cases v with
  | ref a =>
    simp only [ia_okv, Bool.or_eq_true, decide_eq_true_eq] at hv ⊢
    exact hv.imp (fun q => Nat.lt_of_lt_of_le q h) id
  | _ => rfl
theorem oke_m {n n' : Nat} (h : n ≤ n') {e : va_E} (he : ia_oke n e = true) : ia_oke n' e = true := by
  unfold ia_oke at he ⊢
  split at he
  · exact List.all_eq_true.mpr (fun v hv => okv_m h (List.all_eq_true.mp he v hv))
  · refine List.all_eq_true.mpr (fun j hj => ?_)
    have := List.all_eq_true.mp he j hj
    split at this
    · rfl
    · next a q =>
      simp only [Bool.or_eq_true, decide_eq_true_eq] at this ⊢
      exact this.imp (fun q => Nat.lt_of_lt_of_le q h) id
  · rfl
theorem okh_at {n a : Nat} {h : Nat → va_E} (H : ia_okh h n = true) (ha : a < n) : ia_oke n (h a) = true := List.all_eq_true.mp H a (List.mem_range.mpr ha)
theorem okh_of {n : Nat} {h : Nat → va_E} (H : ∀ a, a < n → ia_oke n (h a) = true) : ia_okh h n = true := List.all_eq_true.mpr (fun a ha => H a (List.mem_range.mp ha))
theorem okh_up {n a : Nat} {h : Nat → va_E} {e : va_E} (H : ia_okh h n = true) (he : ia_oke n e = true) : ia_okh (va_up h a e) n = true := by
  refine okh_of (fun c hc => ?_)
  by_cases q : c = a
  · subst q
    rw [va_up_self]
    exact he
  · rw [va_up_ne _ _ q]
    exact okh_at H hc
theorem okh_new {n : Nat} {h : Nat → va_E} {e : va_E} (H : ia_okh h n = true) (he : ia_oke (n + 1) e = true) : ia_okh (va_up h n e) (n + 1) = true := by
  refine okh_of (fun c hc => ?_)
  by_cases q : c = n
  · subst q
    rw [va_up_self]
    exact he
  · rw [va_up_ne _ _ q]
    exact oke_m (by omega) (okh_at H (by omega))
def gdT (P : ia_T) : Prop := (∀ own x v, ia_tK P own x = some v → ia_okv 0 v = true) ∧ (∀ own x v, ia_tS P own x = some v → ia_okv 0 v = true) ∧ ∀ a, ia_oke 0 (ia_hc P a) = true
theorem at_ok {P : ia_T} (G : gdT P) {h : Nat → va_E} {n a : Nat} {e : va_E} (H : ia_okh h n = true) (ha : ia_at P h n a = some e) : ia_oke n e = true := by
  unfold ia_at at ha
  split at ha
  · next q => cases ha; exact okh_at H q
  · split at ha
    · cases ha; exact oke_m (Nat.zero_le _) (G.2.2 a)
    · cases ha
abbrev okS (n : Nat) (st : List Value) : Prop := st.all (ia_okv n) = true
abbrev okL (n : Nat) (lv : List (Nat × Value)) : Prop := (lv.all fun q => ia_okv n q.2) = true
theorem okS_c {n : Nat} {v : Value} {st : List Value} : okS n (v :: st) ↔ ia_okv n v = true ∧ okS n st := by
  show (v :: st).all _ = true ↔ _
  rw [List.all_cons, Bool.and_eq_true]
theorem okS_i {n : Nat} {x : Int32} {st : List Value} (h : okS n st) : okS n (.int x :: st) := okS_c.mpr ⟨rfl, h⟩
theorem okS_l {n : Nat} {x : Int64} {st : List Value} (h : okS n st) : okS n (.long x :: st) := okS_c.mpr ⟨rfl, h⟩
theorem okS_t {n : Nat} {v : Value} {st : List Value} (h : okS n (v :: st)) : okS n st := (okS_c.mp h).2
theorem num_ok {i : Instr} {len n : Nat} {st st' : List Value} (h : ia_num i len st = some st') (H : okS n st) : okS n st' := by
  unfold ia_num at h
  split at h
  all_goals first
    | (cases h; exact okS_i H)
    | (cases h; exact okS_l H)
    | (cases h; exact okS_c.mpr ⟨rfl, H⟩)
    | (cases h; exact okS_i (okS_t (okS_t H)))
    | (cases h; exact okS_l (okS_t (okS_t H)))
    | (cases h; exact okS_i (okS_t H))
    | (cases h; exact okS_l (okS_t H))
    | (split at h <;> first | (cases h; done) | (cases h; exact okS_i (okS_t (okS_t H))) | (cases h; exact okS_l (okS_t (okS_t H))) | (cases h; exact okS_c.mpr ⟨(okS_c.mp H).1, H⟩) | (cases h; exact okS_t H) | (cases h; exact okS_c.mpr ⟨(okS_c.mp H).1, okS_c.mpr ⟨(okS_c.mp (okS_t H)).1, H⟩⟩))
    | (cases h; done)
theorem get_ok {n i : Nat} {lv : List (Nat × Value)} {v : Value} (h : ia_get lv i = some v) (H : okL n lv) : ia_okv n v = true := by
  have := ia_get_at h
  exact List.all_eq_true.mp H _ this
theorem set1_ok {n i : Nat} {lv : List (Nat × Value)} {v : Value} (H : okL n lv) (hv : ia_okv n v = true) : okL n (ia_set1 lv i v) := by
  unfold ia_set1
  show List.all _ _ = true
  rw [List.all_cons, Bool.and_eq_true]
  exact ⟨hv, List.all_eq_true.mpr (fun q hq => List.all_eq_true.mp H q (List.mem_filter.mp hq).1)⟩
theorem set2_ok {n i : Nat} {lv : List (Nat × Value)} {v : Value} (H : okL n lv) (hv : ia_okv n v = true) : okL n (ia_set2 lv i v) := by
  unfold ia_set2
  show List.all _ _ = true
  rw [List.all_cons, Bool.and_eq_true]
  exact ⟨hv, List.all_eq_true.mpr (fun q hq => List.all_eq_true.mp H q (List.mem_filter.mp hq).1)⟩
theorem ldi_ok {n k : Nat} {lv lv' : List (Nat × Value)} {st st' : List Value} (h : ia_ldi lv k st = some (lv', st')) (HL : okL n lv) (H : okS n st) : okL n lv' ∧ okS n st' := by
  unfold ia_ldi at h
  split at h
  · cases h; exact ⟨HL, okS_i H⟩
  · cases h
theorem ldl_ok {n k : Nat} {lv lv' : List (Nat × Value)} {st st' : List Value} (h : ia_ldl lv k st = some (lv', st')) (HL : okL n lv) (H : okS n st) : okL n lv' ∧ okS n st' := by
  unfold ia_ldl at h
  split at h
  · cases h; exact ⟨HL, okS_l H⟩
  · cases h
theorem lda_ok {n k : Nat} {lv lv' : List (Nat × Value)} {st st' : List Value} (h : ia_lda lv k st = some (lv', st')) (HL : okL n lv) (H : okS n st) : okL n lv' ∧ okS n st' := by
  unfold ia_lda at h
  split at h
  · next q => cases h; exact ⟨HL, okS_c.mpr ⟨get_ok q HL, H⟩⟩
  · cases h; exact ⟨HL, okS_c.mpr ⟨rfl, H⟩⟩
  · cases h
theorem loc_ok {i : Instr} {len nL n : Nat} {lv lv' : List (Nat × Value)} {st st' : List Value} (h : ia_loc i len nL lv st = some (lv', st')) (HL : okL n lv) (H : okS n st) : okL n lv' ∧ okS n st' := by
  unfold ia_loc at h
  split at h
  all_goals first
    | exact ldi_ok h HL H
    | exact ldl_ok h HL H
    | exact lda_ok h HL H
    | (split at h <;> first | (cases h; done) | (cases h; exact ⟨set1_ok HL (okS_c.mp H).1, okS_t H⟩) | (cases h; exact ⟨set2_ok HL (okS_c.mp H).1, okS_t H⟩))
    | (split at h
       · split at h
         · cases h; exact ⟨set1_ok HL rfl, H⟩
         · cases h
       · cases h)
    | (cases h; done)
theorem tgo_ok {n pc pc' : Nat} {off : Int} {st st' : List Value} (h : ia_tgo pc off st = some (pc', st')) (H : okS n st) : okS n st' := by
  unfold ia_tgo at h
  split at h
  · cases h; exact H
  · cases h
theorem cj_ok {n pc pc' : Nat} {off : Int} {b : Bool} {st st' : List Value} (h : ia_cj pc off b st = some (pc', st')) (H : okS n st) : okS n st' := by
  unfold ia_cj at h
  split at h
  · split at h <;> (cases h; exact H)
  · cases h
theorem br_ok {i : Instr} {len pc pc' n : Nat} {st st' : List Value} (h : ia_br i len pc st = some (pc', st')) (H : okS n st) : okS n st' := by
  unfold ia_br at h
  split at h
  all_goals first
    | exact cj_ok h (okS_t H)
    | exact cj_ok h (okS_t (okS_t H))
    | exact tgo_ok h H
    | exact tgo_ok h (okS_t H)
    | (cases h; exact okS_t H)
    | (split at h
       · exact tgo_ok h (okS_t H)
       · split at h
         · exact tgo_ok h (okS_t H)
         · cases h)
    | (cases h; done)
theorem ofo_ok {n : Nat} {r : Option Nat} (h : ∀ a, r = some a → a < n ∨ 1000000 ≤ a) : ia_okv n (ia_ofo r) = true := by
  cases r with
  | none => rfl
  | some a =>
    show (decide (a < n) || decide (1000000 ≤ a)) = true
    simp only [Bool.or_eq_true, decide_eq_true_eq]
    exact h a rfl
theorem oke_row {n t N : Nat} {f : Nat → Option Nat} (h : ia_oke n (.inl (t, N, .inr (.inr (.inr (.inr f))))) = true) {j : Nat} (hj : j < N) {a : Nat} (ha : f j = some a) : a < n ∨ 1000000 ≤ a := by
  have := List.all_eq_true.mp h j (List.mem_range.mpr hj)
  rw [ha] at this
  simp only [Bool.or_eq_true, decide_eq_true_eq] at this
  exact this
theorem oke_rowup {n t N j b : Nat} {f : Nat → Option Nat} (h : ia_oke n (.inl (t, N, .inr (.inr (.inr (.inr f))))) = true) (hb : b < n) : ia_oke n (.inl (t, N, .inr (.inr (.inr (.inr (va_up f j (some b))))))) = true := by
  refine List.all_eq_true.mpr (fun y hy => ?_)
  by_cases z : y = j
  · subst z
    rw [va_up_self]
    simp only [Bool.or_eq_true, decide_eq_true_eq]
    exact Or.inl hb
  · rw [va_up_ne _ _ z]
    exact List.all_eq_true.mp h y hy
theorem in_lt {j : Int32} {N : Nat} (h : ia_in j N = true) : j.toNatClampNeg < N := by
  unfold ia_in at h
  have := of_decide_eq_true h
  show j.toInt.toNat < N
  omega
theorem rd_ok {P : ia_T} (G : gdT P) {own : Nat} {i : Instr} {len n : Nat} {st st' : List Value} {h : Nat → va_E} (e : ia_rd P own i len st h n = some st') (Hh : ia_okh h n = true) (H : okS n st) : okS n st' := by
  unfold ia_rd at e
  split at e
  · split at e
    · next ci k c fs q1 q2 =>
      split at e
      · split at e
        · next v q3 =>
          cases e
          have o := at_ok G Hh q2
          exact okS_c.mpr ⟨List.all_eq_true.mp o v (List.mem_of_getElem? q3), okS_t H⟩
        · cases e
      · cases e
    · cases e
  · split at e
    · split at e
      · cases e; exact okS_i (okS_t (okS_t H))
      · cases e
    · cases e
  · split at e
    · split at e
      · cases e; exact okS_i (okS_t (okS_t H))
      · cases e
    · split at e
      · cases e; exact okS_i (okS_t (okS_t H))
      · cases e
    · cases e
  · split at e
    · split at e
      · cases e; exact okS_l (okS_t (okS_t H))
      · cases e
    · cases e
  · split at e
    · next N f q =>
      split at e
      · next hj =>
        cases e
        exact okS_c.mpr ⟨ofo_ok (fun a ha => oke_row (at_ok G Hh q) (in_lt hj) ha), okS_t (okS_t H)⟩
      · cases e
    · cases e
  · split at e
    · split at e
      · cases e; exact okS_i (okS_t H)
      · cases e
    · cases e
  · split at e
    · split at e
      · cases e; exact H
      · cases e
    · cases e
  · split at e
    · next v q => cases e; exact okS_c.mpr ⟨okv_m (Nat.zero_le _) (G.2.1 _ _ _ q), H⟩
    · cases e
  · split at e
    · cases e; exact okS_i H
    · next a q => cases e; exact okS_c.mpr ⟨okv_m (Nat.zero_le _) (G.1 _ _ _ q), H⟩
    · cases e
  · split at e
    · cases e; exact okS_i H
    · next a q => cases e; exact okS_c.mpr ⟨okv_m (Nat.zero_le _) (G.1 _ _ _ q), H⟩
    · cases e
  · split at e
    · cases e; exact okS_l H
    · cases e
  · cases e
theorem wr_ok {P : ia_T} {own : Nat} {ini : Bool} {i : Instr} {len n : Nat} {st st' : List Value} {h h' : Nat → va_E} (e : ia_wr P own ini i len st h n = some (st', h')) (Hh : ia_okh h n = true) (H : okS n st) : okS n st' ∧ ia_okh h' n = true := by
  unfold ia_wr at e
  split at e
  · split at e
    · next v a st0 ci k c fs q1 q2 =>
      split at e
      · next q =>
        cases e
        have o := okh_at Hh q.1
        rw [q2] at o
        refine ⟨okS_t (okS_t H), okh_up Hh (List.all_eq_true.mpr (fun y hy => ?_))⟩
        rcases List.mem_or_eq_of_mem_set hy with hy | hy
        · exact List.all_eq_true.mp o y hy
        · rw [hy]
          exact (okS_c.mp H).1
      · cases e
    · cases e
  · split at e
    · split at e
      · cases e; exact ⟨okS_t (okS_t (okS_t H)), okh_up Hh rfl⟩
      · cases e
    · cases e
  · split at e
    · split at e
      · cases e; exact ⟨okS_t (okS_t (okS_t H)), okh_up Hh rfl⟩
      · cases e
    · split at e
      · cases e; exact ⟨okS_t (okS_t (okS_t H)), okh_up Hh rfl⟩
      · cases e
    · cases e
  · split at e
    · split at e
      · cases e; exact ⟨okS_t (okS_t (okS_t H)), okh_up Hh rfl⟩
      · cases e
    · cases e
  · split at e
    · next q1 q2 =>
      split at e
      · next q =>
        cases e
        have o := okh_at Hh q.1
        rw [q1] at o
        exact ⟨okS_t (okS_t (okS_t H)), okh_up Hh (oke_rowup o q.2.1)⟩
      · cases e
    · cases e
  · cases e
end QA
