/-! the launch's constants at the law's entry (written by gen94.py). -/
section NL
variable {args : Array Value} {s : State} {A : Nat → Prop}
def jsW (own : String) (k : Nat) (bs : List Int32) : List Cond := [.exactly (.string own k) "java/lang/String", .eq (.field (.string own k) "java/lang/String" "coder" "B") (.int 0), .arrayOf (.field (.string own k) "java/lang/String" "value" "[B") .byte, .eq (.length (.field (.string own k) "java/lang/String" "value" "[B")) (.int (Int32.ofNat bs.length))] ++ (List.range bs.length).map (fun j => .eq (.elem (.field (.string own k) "java/lang/String" "value" "[B") (.int (Int32.ofNat j))) (.int (bs.getD j 0)))
theorem js_of {own : String} {k : Nat} {bs : List Int32} (hl : bs.length < 1000) (h : ∀ w ∈ jsW own k bs, w.before args s = true) (hA : ∀ a : Nat, a < s.heap.size → ¬ A a) : ∃ aK aV : Nat, (Term.string own k).eval args s none [] s = some (.ref aK) ∧ va_O "java/lang/String" aK A s s.heap ∧ va_OF "java/lang/String" "coder" "B" (.int 0) aK A s s.heap ∧ va_OF "java/lang/String" "value" "[B" (.ref aV) aK A s s.heap ∧ va_T .byte aV bs.length (fun j => .int (bs.getD j 0)) A s s.heap := by
  have z : ∀ {i : Nat}, i < 1 → i = 0 := fun h => by omega
  obtain ⟨adK, adV, hS, he⟩ := vk_Sof (args := args) (s := s) (N := 1) (tm := fun _ => .string own k) (len := [bs.length]) (byt := [bs]) (A := A)
    (fun i hi => by rw [z hi]; exact Nat.lt_trans hl (by decide))
    (fun i hi => h _ (List.mem_append_left _ List.mem_cons_self))
    (fun i hi => h _ (List.mem_append_left _ (List.mem_cons_of_mem _ List.mem_cons_self)))
    (fun i hi => h _ (List.mem_append_left _ (List.mem_cons_of_mem _ (List.mem_cons_of_mem _ List.mem_cons_self))))
    (fun i hi => by rw [z hi]; exact h _ (List.mem_append_left _ (List.mem_cons_of_mem _ (List.mem_cons_of_mem _ (List.mem_cons_of_mem _ List.mem_cons_self)))))
    (fun i hi j hj => by rw [z hi] at hj ⊢; exact h _ (List.mem_append_right _ (List.mem_map.mpr ⟨j, List.mem_range.mpr hj, rfl⟩)))
    (fun i j hi hj hij => absurd ((z hi).trans (z hj).symm) hij) hA
  obtain ⟨h1, h2, h3, h4⟩ := hS.1 0 (by omega)
  exact ⟨adK 0, adV 0, he 0 (by omega), h1, h2, h3, h4⟩
def jaW (C n : String) (bs : List Int32) : List Cond := [.arrayOf (.static C n "[I") .int, .eq (.length (.static C n "[I")) (.int (Int32.ofNat bs.length))] ++ (List.range bs.length).map (fun j => .eq (.elem (.static C n "[I") (.int (Int32.ofNat j))) (.int (bs.getD j 0)))
theorem ja_of {C n : String} {bs : List Int32} (hl : bs.length < 1000) (h : ∀ w ∈ jaW C n bs, w.before args s = true) (hlay : (Cond.laysStatic C n "[I").before args s = true) (hini : (Cond.initialized C).before args s = true) (hA : ∀ a : Nat, a < s.heap.size → ¬ A a) : ∃ t : Nat, va_Z C n "[I" (.ref t) A s s.heap ∧ va_T .int t bs.length (fun j => .int (bs.getD j 0)) A s s.heap := by
  obtain ⟨t, e, hT⟩ := va_Tof (args := args) (s := s) (f := fun j => .int (bs.getD j 0)) (N := bs.length) (A := A) (tm := .static C n "[I") (ty := .int) (Nat.lt_trans hl (by decide)) (h _ (List.mem_append_left _ List.mem_cons_self)) (va_eqt (h _ (List.mem_append_left _ (List.mem_cons_of_mem _ List.mem_cons_self)))) (fun j hj => va_eqt (h _ (List.mem_append_right _ (List.mem_map.mpr ⟨j, List.mem_range.mpr hj, rfl⟩)))) hA
  exact ⟨t, va_Zof hlay hini e hA, hT⟩
theorem jw_k0 : ∀ w ∈ jsW RX4 51 [106, 104, 116], w ∈ flatC (Jvm.Cond.and given_1 narrow_1) := by decide +kernel
theorem jw_k1 : ∀ w ∈ jsW RX4 102 [118, 115, 99, 108, 119, 103], w ∈ flatC (Jvm.Cond.and given_1 narrow_1) := by decide +kernel
theorem jw_k2 : ∀ w ∈ jsW RX4 104 [112, 115, 119, 116, 101], w ∈ flatC (Jvm.Cond.and given_1 narrow_1) := by decide +kernel
theorem jw_k3 : ∀ w ∈ jsW RX4 106 [97, 99], w ∈ flatC (Jvm.Cond.and given_1 narrow_1) := by decide +kernel
theorem jw_k4 : ∀ w ∈ jsW RX5 91 [112, 115, 119, 105, 99, 97], w ∈ flatC (Jvm.Cond.and given_1 narrow_1) := by decide +kernel
theorem jw_k5 : ∀ w ∈ jsW RX6 45 [116, 107, 111, 104, 119], w ∈ flatC (Jvm.Cond.and given_1 narrow_1) := by decide +kernel
theorem jw_k6 : ∀ w ∈ jsW RX12 26 [121], w ∈ flatC (Jvm.Cond.and given_1 narrow_1) := by decide +kernel
theorem jw_a0 : ∀ w ∈ jaW RX11 "MOST_OF" [4, 6, 4], w ∈ flatC (Jvm.Cond.and given_1 narrow_1) := by decide +kernel
theorem jw_a1 : ∀ w ∈ jaW RX11 "ITEMS_OF" [6, 5, 2], w ∈ flatC (Jvm.Cond.and given_1 narrow_1) := by decide +kernel
theorem jw_a2 : ∀ w ∈ jaW RX11 "TOLD_AT" [0, 24, 54], w ∈ flatC (Jvm.Cond.and given_1 narrow_1) := by decide +kernel
theorem jw_a3 : ∀ w ∈ jaW RX11 "BOUNDS_AT" [0, 6, 11], w ∈ flatC (Jvm.Cond.and given_1 narrow_1) := by decide +kernel
theorem jw_a4 : ∀ w ∈ jaW RX11 "LEAST" [0, 0, 0, 0, 1, 1, 0, 1, 0, 0, 0, 0, 0], w ∈ flatC (Jvm.Cond.and given_1 narrow_1) := by decide +kernel
theorem jw_a5 : ∀ w ∈ jaW RX11 "MOST" [99, 99, 9, 1, 9, 99, 99, 9, 9, 9, 9, 99, 99], w ∈ flatC (Jvm.Cond.and given_1 narrow_1) := by decide +kernel
theorem jw_a6 : ∀ w ∈ jaW RX11 "USUAL" [20, 10, 0, 0, 5, 40, 30, 5, 0, 2, 0, 10, 5], w ∈ flatC (Jvm.Cond.and given_1 narrow_1) := by decide +kernel
def jw_E : List Cond := [.eq (.string RX5 91) (.string RX12 32), .eq (.string RX4 102) (.string RX12 227), .eq (.string RX4 104) (.string RX12 229), .eq (.string RX4 106) (.string RX12 231), .eq (.string RX6 45) (.string RX12 258), .eq (.static "java/lang/String" "COMPACT_STRINGS" "Z") (.int 1), .isRef (.static "jdk/internal/util/Preconditions" "SIOOBE_FORMATTER" "Ljava/util/function/BiFunction;"), .isRef (.static Bundle.tN "UNASSIGNED_STACK" Bundle.steD), .isRef (.static Bundle.tN "SUPPRESSED_SENTINEL" Bundle.listD)]
theorem jw_Eok : ∀ w ∈ jw_E, w ∈ flatC (Jvm.Cond.and given_1 narrow_1) := by decide +kernel
def jw_T : List Cond := [.laysStatic RX11 "MOST_OF" "[I", .laysStatic RX11 "ITEMS_OF" "[I", .laysStatic RX11 "TOLD_AT" "[I", .laysStatic RX11 "BOUNDS_AT" "[I", .laysStatic RX11 "LEAST" "[I", .laysStatic RX11 "MOST" "[I", .laysStatic RX11 "USUAL" "[I", .initialized RX11, .laysStatic "java/lang/String" "COMPACT_STRINGS" "Z", .initialized "java/lang/String", .laysStatic "jdk/internal/util/Preconditions" "SIOOBE_FORMATTER" "Ljava/util/function/BiFunction;", .initialized "jdk/internal/util/Preconditions", .laysStatic Bundle.tN "UNASSIGNED_STACK" Bundle.steD, .laysStatic Bundle.tN "SUPPRESSED_SENTINEL" Bundle.listD, .initialized Bundle.tN, .stringRef RX4 51 "jht", .stringRef RX4 102 "vsclwg", .stringRef RX4 104 "pswte", .stringRef RX4 106 "ac", .stringRef RX5 91 "pswica", .stringRef RX6 45 "tkohw", .stringRef RX12 26 "y", .stringRef RX12 32 "pswica", .stringRef RX12 227 "vsclwg", .stringRef RX12 229 "pswte", .stringRef RX12 231 "ac", .stringRef RX12 258 "tkohw"]
theorem jw_Tok : ∀ w ∈ jw_T, w ∈ lw_tbl := by decide +kernel
def jw_N : List Cond := [.fieldLink RJ0 38 "java/lang/String" "COMPACT_STRINGS" "Z", .fieldLink RJ0 1053 "jdk/internal/util/Preconditions" "SIOOBE_FORMATTER" "Ljava/util/function/BiFunction;", .fieldLinkNest RX4 63 RX11 "MOST_OF" "[I" RX11, .fieldLinkNest RX4 69 RX11 "ITEMS_OF" "[I" RX11, .fieldLinkNest RX10 30 RX11 "TOLD_AT" "[I" RX11, .fieldLinkNest RX10 33 RX11 "ITEMS_OF" "[I" RX11, .fieldLinkNest RX4 79 RX11 "USUAL" "[I" RX11, .fieldLinkNest RX4 82 RX11 "BOUNDS_AT" "[I" RX11, .fieldLinkNest RX4 93 RX11 "LEAST" "[I" RX11, .fieldLinkNest RX4 96 RX11 "MOST" "[I" RX11, .fieldLinkNest RX7 62 RX11 "MOST_OF" "[I" RX11]
theorem jw_Nok : jw_N.all (fun w => decide (w ∈ lw_tbl) && (goodWord w || ia_isX w)) = true := by decide +kernel
theorem jw_Nin {w : Cond} (h : w ∈ jw_N) : w ∈ ia_Ts ++ ia_Xs := by
  have := List.all_eq_true.mp jw_Nok w h
  simp only [Bool.and_eq_true, decide_eq_true_eq] at this
  exact jx_in this.1 this.2
theorem lget {l : List Cond} {i : Nat} {w : Cond} (h : l[i]? = some w) : w ∈ l := List.mem_of_getElem? h
/-- the fields of a string -/
def jzFb (p : Nat × Nat × Nat × Nat) : Bool := p.2.1 != 900 || ((p.2.2.1 == 0 && (decide (Cond.fieldLink (ia_rN0 (p.1 / 100000)) (p.1 % 100000) "java/lang/String" "value" "[B" ∈ lw_tbl) && goodWord (Cond.fieldLink (ia_rN0 (p.1 / 100000)) (p.1 % 100000) "java/lang/String" "value" "[B"))) || (p.2.2.1 == 1 && (decide (Cond.fieldLink (ia_rN0 (p.1 / 100000)) (p.1 % 100000) "java/lang/String" "coder" "B" ∈ lw_tbl) && goodWord (Cond.fieldLink (ia_rN0 (p.1 / 100000)) (p.1 % 100000) "java/lang/String" "coder" "B"))))
theorem jzF_all : ia_LF.all jzFb = true := by decide +kernel
theorem jzF_of {own x k : Nat} (h : ia_tF0 own x = some (900, k)) : (k = 0 ∧ Cond.fieldLink (ia_rN0 own) x "java/lang/String" "value" "[B" ∈ ia_Ts ++ ia_Xs) ∨ (k = 1 ∧ Cond.fieldLink (ia_rN0 own) x "java/lang/String" "coder" "B" ∈ ia_Ts ++ ia_Xs) := by
  unfold ia_tF0 at h
  by_cases c : x < 100000
  · rw [if_pos c] at h
    cases hl : ia_lk ia_LF (own * 100000 + x) with
    | none => rw [hl] at h; cases h
    | some r =>
      rw [hl] at h
      obtain ⟨r1, r2, r3⟩ := r
      have h : some (r1, r2) = some (900, k) := h
      cases h
      have := List.all_eq_true.mp jzF_all _ (ia_lk_mem _ _ _ hl)
      unfold jzFb at this
      have d1 : (own * 100000 + x) / 100000 = own := by omega
      have d2 : (own * 100000 + x) % 100000 = x := by omega
      simp only [d1, d2, bne_self_eq_false, Bool.false_or, Bool.or_eq_true, Bool.and_eq_true, beq_iff_eq, decide_eq_true_eq] at this
      rcases this with ⟨a, b, c⟩ | ⟨a, b, c⟩
      · exact Or.inl ⟨a, List.mem_append_left _ (List.mem_filter.mpr ⟨b, c⟩)⟩
      · exact Or.inr ⟨a, List.mem_append_left _ (List.mem_filter.mpr ⟨b, c⟩)⟩
  · rw [if_neg c] at h
    cases h
/-- what a constant of the launch is -/
def jzC (ad : Nat → Nat) (A : Nat → Prop) (U : State) (H : Heap) (a : Nat) (e : va_E) : Prop := match e with
  | .inl (0, N, .inl f) => va_T .int (ad a) N (fun j => .int (f j)) A U H
  | .inl (1, N, .inl f) => va_T .byte (ad a) N (fun j => .int (f j)) A U H
  | .inl (9, _, .inl _) => True
  | .inr (ci, fs) => ci = 900 ∧ ∃ r, fs = [.ref r, .int 0] ∧ 1000000 ≤ r ∧ va_O "java/lang/String" (ad a) A U H ∧ va_OF "java/lang/String" "coder" "B" (.int 0) (ad a) A U H ∧ va_OF "java/lang/String" "value" "[B" (.ref (ad r)) (ad a) A U H
  | _ => False
def jzS (ad : Nat → Nat) (A : Nat → Prop) (U : State) (own x : Nat) (v : Value) : Prop := ia_okv 0 v = true ∧ ∃ C n d host : String, va_Z C n d (ia_v ad v) A U U.heap ∧ (Cond.fieldLink (ia_rN0 own) x C n d ∈ ia_Ts ++ ia_Xs ∨ Cond.fieldLinkNest (ia_rN0 own) x C n d host ∈ ia_Ts ++ ia_Xs)
def jzK (ad : Nat → Nat) (U : State) (own x : Nat) (v : Value) : Prop := ∀ a, v = .ref a → 1000000 ≤ a ∧ ∃ tx : String, vk_R (ia_rN0 own) x tx (ad a) U
theorem jz_E0 {L b : Nat} {xs : Nat → Int32} {fm : Bool} {ad : Nat → Nat} (hb : ad 2000000 = b) (hX : va_X b L xs s s.heap) (hbA : ¬ A b) (h1 : ∀ p ∈ ia_hcL, jzC ad A s s.heap p.1 p.2) (h2 : ∀ p ∈ ia_LS, jzS ad A s (p.1 / 100000) (p.1 % 100000) p.2.1) (h3 : jzS ad A s 900 1053 (zfm fm)) (h4 : ∀ p ∈ ia_LK, jzK ad s (p.1 / 100000) (p.1 % 100000) p.2.1) : ia_E (ia_P0 L xs fm) (ia_Ts ++ ia_Xs) ad A s s.heap := by
  have hall : ∀ a, jzC ad A s s.heap a (ia_hc0 L xs a) := fun a => by
    unfold ia_hc0
    by_cases c : a = 2000000
    · rw [if_pos c, c]
      obtain ⟨scr, k1, k2, k3, k4, k5⟩ := hX
      show va_T .int (ad 2000000) L (fun j => .int (xs j)) A s s.heap
      rw [hb]
      exact ⟨scr, k1, k2, k3, Nat.le_of_eq k4.symm, by rw [k4], k5, hbA⟩
    · rw [if_neg c]
      cases hl : ia_lk ia_hcL a with
      | none => exact True.intro
      | some e => exact h1 (a, e) (ia_lk_mem _ _ _ hl)
  refine ⟨fun a N f _ hc => ?_, fun a N f _ hc => ?_, fun own x v hv => ?_, fun a ci fs _ hc => ?_, fun a ci fs _ hc => ?_, fun own x a hv => ?_, fun a _ => ?_⟩
  · have hc : ia_hc0 L xs a = .inl (0, N, .inl f) := hc
    have := hall a
    rw [hc] at this
    exact this
  · have hc : ia_hc0 L xs a = .inl (1, N, .inl f) := hc
    have := hall a
    rw [hc] at this
    exact this
  · have hv : ia_tS0 (zfm fm) own x = some v := hv
    show jzS ad A s own x v
    unfold ia_tS0 at hv
    by_cases c : own * 100000 + x = 90001053 ∧ x < 100000
    · rw [if_pos c] at hv
      cases hv
      obtain ⟨c1, c2⟩ := c
      have e1 : own = 900 := by omega
      have e2 : x = 1053 := by omega
      subst e1
      subst e2
      exact h3
    · rw [if_neg c] at hv
      by_cases c2 : x < 100000
      · rw [if_pos c2] at hv
        cases hl : ia_lk ia_LS (own * 100000 + x) with
        | none => rw [hl] at hv; cases hv
        | some r =>
          rw [hl] at hv
          have hv : some r.1 = some v := hv
          cases hv
          have := h2 _ (ia_lk_mem _ _ _ hl)
          rw [show (own * 100000 + x, r).1 / 100000 = own by show (own * 100000 + x) / 100000 = own; omega, show (own * 100000 + x, r).1 % 100000 = x by show (own * 100000 + x) % 100000 = x; omega] at this
          exact this
      · rw [if_neg c2] at hv
        cases hv
  · have hc : ia_hc0 L xs a = .inr (ci, fs) := hc
    have := hall a
    rw [hc] at this
    obtain ⟨rfl, r, rfl, hr, q1, q2, q3⟩ := this
    refine ⟨Nat.le_refl _, fun own x k v hF hv => ?_⟩
    rcases jzF_of hF with ⟨rfl, w⟩ | ⟨rfl, w⟩
    · have hv : some (Value.ref r) = some v := hv
      cases hv
      refine ⟨by unfold ia_okv; simp only [Bool.or_eq_true, decide_eq_true_eq]; exact Or.inr hr, _, _, _, q3, w⟩
    · have hv : some (Value.int 0) = some v := hv
      cases hv
      exact ⟨rfl, _, _, _, q2, w⟩
  · have hc : ia_hc0 L xs a = .inr (ci, fs) := hc
    have := hall a
    rw [hc] at this
    obtain ⟨rfl, r, rfl, hr, q1, q2, q3⟩ := this
    exact q1
  · have hv : ia_tK0 own x = some (.ref a) := hv
    unfold ia_tK0 at hv
    by_cases c2 : x < 100000
    · rw [if_pos c2] at hv
      cases hl : ia_lk ia_LK (own * 100000 + x) with
      | none => rw [hl] at hv; cases hv
      | some r =>
        rw [hl] at hv
        have hv : some r.1 = some (.ref a) := hv
        have := h4 _ (ia_lk_mem _ _ _ hl)
        rw [show (own * 100000 + x, r).1 / 100000 = own by show (own * 100000 + x) / 100000 = own; omega, show (own * 100000 + x, r).1 % 100000 = x by show (own * 100000 + x) % 100000 = x; omega] at this
        exact this a (Option.some.inj hv)
    · rw [if_neg c2] at hv
      cases hv
  · have := hall a
    show match ia_hc0 L xs a with
      | .inl (0, _, .inl _) => True
      | .inl (1, _, .inl _) => True
      | .inr _ => True
      | .inl (9, _, _) => True
      | _ => False
    generalize ia_hc0 L xs a = e at this
    unfold jzC at this
    split at this
    · trivial
    · trivial
    · trivial
    · trivial
    · exact this.elim
def jzA (t0 t1 t2 t3 t4 t5 t6 k0 u0 k1 u1 k2 u2 k3 u3 k4 u4 k5 u5 k6 u6 q b : Nat) (a : Nat) : Nat := (ia_lk [(1000001, t0), (1000002, t1), (1000003, t2), (1000004, t3), (1000005, t4), (1000006, t5), (1000007, t6), (1000100, k0), (1000200, u0), (1000101, k1), (1000201, u1), (1000102, k2), (1000202, u2), (1000103, k3), (1000203, u3), (1000104, k4), (1000204, u4), (1000105, k5), (1000205, u5), (1000106, k6), (1000206, u6), (1000300, q), (2000000, b)] a).getD 0
theorem jz_E {L b : Nat} {xs : Nat → Int32} (hts : ∀ w ∈ lw_tbl, w.before args s = true) (hgv : ∀ w ∈ flatC (Jvm.Cond.and given_1 narrow_1), w.before args s = true) (hX : va_X b L xs s s.heap) (hbl : b < s.heap.size) (hA : ∀ a : Nat, a < s.heap.size → ¬ A a) : ∃ (fm : Bool) (ad : Nat → Nat), ad 2000000 = b ∧ ia_E (ia_P0 L xs fm) (ia_Ts ++ ia_Xs) ad A s s.heap := by
  have hT : ∀ w ∈ jw_T, w.before args s = true := fun w h => hts w (jw_Tok w h)
  have hE : ∀ w ∈ jw_E, w.before args s = true := fun w h => hgv w (jw_Eok w h)
  obtain ⟨t0, Z0, T0⟩ := ja_of (A := A) (args := args) (s := s) (by decide) (fun w h => hgv w (jw_a0 w h)) (hT _ (lget (i := 0) rfl)) (hT _ (lget (i := 7) rfl)) hA
  obtain ⟨t1, Z1, T1⟩ := ja_of (A := A) (args := args) (s := s) (by decide) (fun w h => hgv w (jw_a1 w h)) (hT _ (lget (i := 1) rfl)) (hT _ (lget (i := 7) rfl)) hA
  obtain ⟨t2, Z2, T2⟩ := ja_of (A := A) (args := args) (s := s) (by decide) (fun w h => hgv w (jw_a2 w h)) (hT _ (lget (i := 2) rfl)) (hT _ (lget (i := 7) rfl)) hA
  obtain ⟨t3, Z3, T3⟩ := ja_of (A := A) (args := args) (s := s) (by decide) (fun w h => hgv w (jw_a3 w h)) (hT _ (lget (i := 3) rfl)) (hT _ (lget (i := 7) rfl)) hA
  obtain ⟨t4, Z4, T4⟩ := ja_of (A := A) (args := args) (s := s) (by decide) (fun w h => hgv w (jw_a4 w h)) (hT _ (lget (i := 4) rfl)) (hT _ (lget (i := 7) rfl)) hA
  obtain ⟨t5, Z5, T5⟩ := ja_of (A := A) (args := args) (s := s) (by decide) (fun w h => hgv w (jw_a5 w h)) (hT _ (lget (i := 5) rfl)) (hT _ (lget (i := 7) rfl)) hA
  obtain ⟨t6, Z6, T6⟩ := ja_of (A := A) (args := args) (s := s) (by decide) (fun w h => hgv w (jw_a6 w h)) (hT _ (lget (i := 6) rfl)) (hT _ (lget (i := 7) rfl)) hA
  obtain ⟨k0, u0, e0, O0, C0, V0, B0⟩ := js_of (A := A) (args := args) (s := s) (by decide) (fun w h => hgv w (jw_k0 w h)) hA
  obtain ⟨k1, u1, e1, O1, C1, V1, B1⟩ := js_of (A := A) (args := args) (s := s) (by decide) (fun w h => hgv w (jw_k1 w h)) hA
  obtain ⟨k2, u2, e2, O2, C2, V2, B2⟩ := js_of (A := A) (args := args) (s := s) (by decide) (fun w h => hgv w (jw_k2 w h)) hA
  obtain ⟨k3, u3, e3, O3, C3, V3, B3⟩ := js_of (A := A) (args := args) (s := s) (by decide) (fun w h => hgv w (jw_k3 w h)) hA
  obtain ⟨k4, u4, e4, O4, C4, V4, B4⟩ := js_of (A := A) (args := args) (s := s) (by decide) (fun w h => hgv w (jw_k4 w h)) hA
  obtain ⟨k5, u5, e5, O5, C5, V5, B5⟩ := js_of (A := A) (args := args) (s := s) (by decide) (fun w h => hgv w (jw_k5 w h)) hA
  obtain ⟨k6, u6, e6, O6, C6, V6, B6⟩ := js_of (A := A) (args := args) (s := s) (by decide) (fun w h => hgv w (jw_k6 w h)) hA
  have f0 : (Term.string RX12 32).eval args s none [] s = some (.ref k4) := va_eqR (hE _ (lget (i := 0) rfl)) e4
  have f1 : (Term.string RX12 227).eval args s none [] s = some (.ref k1) := va_eqR (hE _ (lget (i := 1) rfl)) e1
  have f2 : (Term.string RX12 229).eval args s none [] s = some (.ref k2) := va_eqR (hE _ (lget (i := 2) rfl)) e2
  have f3 : (Term.string RX12 231).eval args s none [] s = some (.ref k3) := va_eqR (hE _ (lget (i := 3) rfl)) e3
  have f4 : (Term.string RX12 258).eval args s none [] s = some (.ref k5) := va_eqR (hE _ (lget (i := 4) rfl)) e5
  have hcs : va_Z "java/lang/String" "COMPACT_STRINGS" "Z" (.int 1) A s s.heap := va_Zof (hT _ (lget (i := 8) rfl)) (hT _ (lget (i := 9) rfl)) (va_eqt (hE _ (lget (i := 5) rfl))) hA
  have hfm : va_Zq "jdk/internal/util/Preconditions" "SIOOBE_FORMATTER" "Ljava/util/function/BiFunction;" A s s.heap := va_Zqof (hT _ (lget (i := 10) rfl)) (hT _ (lget (i := 11) rfl)) (hE _ (lget (i := 6) rfl)) hA
  obtain ⟨fm, q, hfq⟩ : ∃ (fm : Bool) (q : Nat), va_Z "jdk/internal/util/Preconditions" "SIOOBE_FORMATTER" "Ljava/util/function/BiFunction;" (match fm with | true => .ref q | false => .null) A s s.heap := by
    rcases hfm with h | ⟨q, h⟩
    · exact ⟨false, 0, h⟩
    · exact ⟨true, q, h⟩
  refine ⟨fm, jzA t0 t1 t2 t3 t4 t5 t6 k0 u0 k1 u1 k2 u2 k3 u3 k4 u4 k5 u5 k6 u6 q b, rfl, jz_E0 (b := b) rfl hX (hA b hbl) ?_ ?_ ?_ ?_⟩
  · unfold ia_hcL
    simp only [List.forall_mem_cons]
    exact ⟨T0, T1, T2, T3, T4, T5, T6, ⟨rfl, 1000200, rfl, Nat.le_of_ble_eq_true rfl, O0, C0, V0⟩, B0, ⟨rfl, 1000201, rfl, Nat.le_of_ble_eq_true rfl, O1, C1, V1⟩, B1, ⟨rfl, 1000202, rfl, Nat.le_of_ble_eq_true rfl, O2, C2, V2⟩, B2, ⟨rfl, 1000203, rfl, Nat.le_of_ble_eq_true rfl, O3, C3, V3⟩, B3, ⟨rfl, 1000204, rfl, Nat.le_of_ble_eq_true rfl, O4, C4, V4⟩, B4, ⟨rfl, 1000205, rfl, Nat.le_of_ble_eq_true rfl, O5, C5, V5⟩, B5, ⟨rfl, 1000206, rfl, Nat.le_of_ble_eq_true rfl, O6, C6, V6⟩, B6, fun _ h => nomatch h⟩
  · unfold ia_LS
    simp only [List.forall_mem_cons]
    exact ⟨⟨rfl, _, _, _, "", hcs, Or.inl (jw_Nin (lget (i := 0) rfl))⟩, ⟨rfl, _, _, _, _, Z0, Or.inr (jw_Nin (lget (i := 2) rfl))⟩, ⟨rfl, _, _, _, _, Z1, Or.inr (jw_Nin (lget (i := 3) rfl))⟩, ⟨rfl, _, _, _, _, Z2, Or.inr (jw_Nin (lget (i := 4) rfl))⟩, ⟨rfl, _, _, _, _, Z1, Or.inr (jw_Nin (lget (i := 5) rfl))⟩, ⟨rfl, _, _, _, _, Z6, Or.inr (jw_Nin (lget (i := 6) rfl))⟩, ⟨rfl, _, _, _, _, Z3, Or.inr (jw_Nin (lget (i := 7) rfl))⟩, ⟨rfl, _, _, _, _, Z4, Or.inr (jw_Nin (lget (i := 8) rfl))⟩, ⟨rfl, _, _, _, _, Z5, Or.inr (jw_Nin (lget (i := 9) rfl))⟩, ⟨rfl, _, _, _, _, Z0, Or.inr (jw_Nin (lget (i := 10) rfl))⟩, fun _ h => nomatch h⟩
  · cases fm
    · exact ⟨rfl, _, _, _, "", hfq, Or.inl (jw_Nin (lget (i := 1) rfl))⟩
    · exact ⟨rfl, _, _, _, "", hfq, Or.inl (jw_Nin (lget (i := 1) rfl))⟩
  · unfold ia_LK
    simp only [List.forall_mem_cons]
    exact ⟨fun a h => (by cases h; exact ⟨Nat.le_of_ble_eq_true rfl, _, vk_R.of (hT _ (lget (i := 15) rfl)) e0⟩),
      fun a h => (by cases h; exact ⟨Nat.le_of_ble_eq_true rfl, _, vk_R.of (hT _ (lget (i := 16) rfl)) e1⟩),
      fun a h => (by cases h; exact ⟨Nat.le_of_ble_eq_true rfl, _, vk_R.of (hT _ (lget (i := 17) rfl)) e2⟩),
      fun a h => (by cases h; exact ⟨Nat.le_of_ble_eq_true rfl, _, vk_R.of (hT _ (lget (i := 18) rfl)) e3⟩),
      fun a h => (by cases h; exact ⟨Nat.le_of_ble_eq_true rfl, _, vk_R.of (hT _ (lget (i := 19) rfl)) e4⟩),
      fun a h => (by cases h; exact ⟨Nat.le_of_ble_eq_true rfl, _, vk_R.of (hT _ (lget (i := 20) rfl)) e5⟩),
      fun a h => (by cases h),
      fun a h => (by cases h),
      fun a h => (by cases h),
      fun a h => (by cases h),
      fun a h => (by cases h),
      fun a h => (by cases h),
      fun a h => (by cases h),
      fun a h => (by cases h),
      fun a h => (by cases h),
      fun a h => (by cases h),
      fun a h => (by cases h; exact ⟨Nat.le_of_ble_eq_true rfl, _, vk_R.of (hT _ (lget (i := 21) rfl)) e6⟩),
      fun a h => (by cases h; exact ⟨Nat.le_of_ble_eq_true rfl, _, vk_R.of (hT _ (lget (i := 22) rfl)) f0⟩),
      fun a h => (by cases h),
      fun a h => (by cases h; exact ⟨Nat.le_of_ble_eq_true rfl, _, vk_R.of (hT _ (lget (i := 23) rfl)) f1⟩),
      fun a h => (by cases h; exact ⟨Nat.le_of_ble_eq_true rfl, _, vk_R.of (hT _ (lget (i := 24) rfl)) f2⟩),
      fun a h => (by cases h; exact ⟨Nat.le_of_ble_eq_true rfl, _, vk_R.of (hT _ (lget (i := 25) rfl)) f3⟩),
      fun a h => (by cases h),
      fun a h => (by cases h),
      fun a h => (by cases h; exact ⟨Nat.le_of_ble_eq_true rfl, _, vk_R.of (hT _ (lget (i := 26) rfl)) f4⟩),
      fun a h => (by cases h),
      fun a h => (by cases h),
      fun a h => (by cases h),
      fun a h => (by cases h),
      fun a h => (by cases h),
      fun a h => (by cases h),
      fun a h => (by cases h),
      fun a h => (by cases h),
      fun a h => (by cases h),
      fun a h => (by cases h),
      fun a h => (by cases h),
      fun a h => (by cases h),
      fun a h => (by cases h), fun _ h => nomatch h⟩
end NL
