/-! Signs that stand behind what they work on, done. -/
section OA
theorem valE_num (e : Nat → Int32) {v : Nat} (hv : v < 10000) : valE e (Int32.ofNat (2000 + v)) = Int32.ofNat v := by
  unfold valE
  rw [if_pos (show (2000 : Int32) ≤ _ from (io_le (a := 2000) (by omega) (by omega)).mpr (by omega)), Int32.ofNat_add, Int32.add_comm, show Int32.ofNat 2000 = 2000 from rfl, Int32.add_sub_cancel]
theorem valE_let (e : Nat → Int32) {l : Nat} (hl : l < 6) : valE e (Int32.ofNat (1000 + l)) = e l := by
  unfold valE
  rw [if_neg (fun q => by have := (io_le (a := 2000) (by omega) (by omega)).mp q; omega), Int32.ofNat_add, Int32.add_comm, show Int32.ofNat 1000 = 1000 from rfl, Int32.add_sub_cancel, io_cl (by omega)]
def agr (e e' : Nat → Int32) : Prop := ∀ k, k < 6 → e' k = e k
theorem valE_ag {e e' : Nat → Int32} (h : agr e e') {c : Int32} (hc : codeOk c) (h1 : 1000 ≤ c) : valE e' c = valE e c := by
  rcases hc with ⟨l, hl, rfl⟩ | ⟨v, hv, rfl⟩ | hc
  · rw [valE_let _ hl, valE_let _ hl, h l hl]
  · rw [valE_num _ hv, valE_num _ hv]
  · rcases hc with rfl | rfl | rfl | rfl | rfl | rfl | rfl | rfl | rfl | rfl | rfl | rfl <;> exact absurd h1 (by decide)
theorem exA_ag {e e' : Nat → Int32} (h : agr e e') : ∀ (cs : List Int32) (n : Nat) (s : Bool) (st : Nat → Int32), (∀ c ∈ cs, codeOk c) → exA e' cs n s st = exA e cs n s st
  | [], _, _, _, _ => rfl
  | c :: cs, n, s, st, ok => by
    have ih := fun n s st => exA_ag h cs n s st (fun x hx => ok x (List.mem_cons_of_mem _ hx))
    have oc := ok c (List.mem_cons_self ..)
    unfold exA
    simp only [ih]
    by_cases h1 : 1000 ≤ c
    · rw [valE_ag h oc h1]
    · simp only [if_neg h1]
def ev (e : Nat → Int32) (c : List Int32) : Int32 := exA e (c ++ [59]) 0 false (fun _ => 0)
def exOK (H : Nat) (c : List Int32) : Prop := (∀ x ∈ c, codeOk x ∧ x ≠ 59) ∧ ∀ (e : Nat → Int32) (rest : List Int32) (h : Nat) (st : Nat → Int32), h ≤ H → ∃ st', exA e (c ++ rest) h false st = exA e rest (h + 1) false st' ∧ st' h = ev e c ∧ ∀ k, k < h → st' k = st k
theorem exA_59 (e : Nat → Int32) (cs : List Int32) (h : Nat) (st : Nat → Int32) : exA e (59 :: cs) h false st = st 0 := rfl
theorem exA_63 (e : Nat → Int32) (cs : List Int32) (h : Nat) (st : Nat → Int32) : exA e (63 :: cs) h false st = exA e cs 0 (decide (st 0 = 0)) st := rfl
theorem exA_33 (e : Nat → Int32) (cs : List Int32) (h : Nat) (st : Nat → Int32) : exA e (33 :: cs) (h + 1) false st = exA e cs (h + 1) false (ru st h (1 - st h)) := rfl
theorem exA_jn {c : Int32} (hc : jnOk c) (e : Nat → Int32) (cs : List Int32) (h : Nat) (st : Nat → Int32) : exA e (c :: cs) (h + 2) false st = exA e cs (h + 1) false (ru st h (joinV c (st h) (st (h + 1)))) := by
  rcases hc with rfl | rfl | rfl | rfl | rfl | rfl | rfl | rfl | rfl <;> rfl
theorem exA_v {c : Int32} (hc : 1000 ≤ c) (e : Nat → Int32) (cs : List Int32) {h : Nat} (hh : h < 64) (st : Nat → Int32) : exA e (c :: cs) h false st = exA e cs (h + 1) false (ru st h (valE e c)) := by
  rw [exA, if_neg (by decide), if_neg (fun q => by rw [q] at hc; exact absurd hc (by decide)), if_neg (fun q => by rw [q] at hc; exact absurd hc (by decide)), if_pos hc, if_pos hh]
theorem jnOk.code {c : Int32} (hc : jnOk c) : codeOk c ∧ c ≠ 59 := by
  unfold codeOk
  rcases hc with rfl | rfl | rfl | rfl | rfl | rfl | rfl | rfl | rfl <;> exact ⟨by simp, by decide⟩
theorem exOK_of {H : Nat} {c : List Int32} {F : (Nat → Int32) → Int32} (h1 : ∀ x ∈ c, codeOk x ∧ x ≠ 59) (h2 : ∀ (e : Nat → Int32) (rest : List Int32) (h : Nat) (st : Nat → Int32), h ≤ H → ∃ st', exA e (c ++ rest) h false st = exA e rest (h + 1) false st' ∧ st' h = F e ∧ ∀ k, k < h → st' k = st k) : exOK H c ∧ ∀ e, ev e c = F e := by
  have key : ∀ e, ev e c = F e := by
    intro e
    obtain ⟨st', e1, e2, -⟩ := h2 e [59] 0 (fun _ => 0) (Nat.zero_le _)
    unfold ev
    rw [e1, exA_59, e2]
  refine ⟨⟨h1, fun e rest h st hh => ?_⟩, key⟩
  rw [key]
  exact h2 e rest h st hh
theorem exOK.mono {H H' : Nat} {c : List Int32} (h : exOK H c) (hH : H' ≤ H) : exOK H' c := ⟨h.1, fun e rest k st hk => h.2 e rest k st (by omega)⟩
theorem ex_val {H : Nat} (hH : H < 64) {c : Int32} (hc : codeOk c) (h1 : 1000 ≤ c) : exOK H [c] ∧ ∀ e, ev e [c] = valE e c := by
  refine exOK_of (fun x hx => ?_) (fun e rest h st hh => ⟨ru st h (valE e c), ?_, ru_at _ _ _, fun k hk => ru_ne (by omega)⟩)
  · rw [List.mem_singleton] at hx
    subst hx
    exact ⟨hc, fun q => by rw [q] at h1; exact absurd h1 (by decide)⟩
  · exact exA_v h1 e rest (by omega) st
theorem ex_num {H v : Nat} (hH : H < 64) (hv : v < 10000) : exOK H [Int32.ofNat (2000 + v)] ∧ ∀ e, ev e [Int32.ofNat (2000 + v)] = Int32.ofNat v := by
  have := ex_val hH (c := Int32.ofNat (2000 + v)) (Or.inr (Or.inl ⟨v, hv, rfl⟩)) (show (1000 : Int32) ≤ _ from (io_le (a := 1000) (by omega) (by omega)).mpr (by omega))
  exact ⟨this.1, fun e => (this.2 e).trans (valE_num e hv)⟩
theorem ex_let {H l : Nat} (hH : H < 64) (hl : l < 6) : exOK H [Int32.ofNat (1000 + l)] ∧ ∀ e, ev e [Int32.ofNat (1000 + l)] = e l := by
  have := ex_val hH (c := Int32.ofNat (1000 + l)) (Or.inl ⟨l, hl, rfl⟩) (show (1000 : Int32) ≤ _ from (io_le (a := 1000) (by omega) (by omega)).mpr (by omega))
  exact ⟨this.1, fun e => (this.2 e).trans (valE_let e hl)⟩
theorem ex_join {H : Nat} {c c' : List Int32} {o : Int32} (h1 : exOK H c) (h2 : exOK (H + 1) c') (ho : jnOk o) : exOK H (c ++ c' ++ [o]) ∧ ∀ e, ev e (c ++ c' ++ [o]) = joinV o (ev e c) (ev e c') := by
  refine exOK_of (fun x hx => ?_) (fun e rest h st hh => ?_)
  · rw [List.mem_append, List.mem_append, List.mem_singleton] at hx
    rcases hx with (hx | hx) | hx
    · exact h1.1 x hx
    · exact h2.1 x hx
    · rw [hx]
      exact ho.code
  · obtain ⟨s1, a1, a2, a3⟩ := h1.2 e (c' ++ ([o] ++ rest)) h st hh
    obtain ⟨s2, b1, b2, b3⟩ := h2.2 e ([o] ++ rest) (h + 1) s1 (by omega)
    refine ⟨ru s2 h (joinV o (s2 h) (s2 (h + 1))), ?_, ?_, fun k hk => ?_⟩
    · rw [List.append_assoc, List.append_assoc, a1, b1]
      exact exA_jn ho e rest h s2
    · rw [ru_at, b2, b3 h (by omega), a2]
    · rw [ru_ne (by omega), b3 k (by omega), a3 k hk]
theorem ex_not {H : Nat} {c : List Int32} (h1 : exOK H c) : exOK H (c ++ [33]) ∧ ∀ e, ev e (c ++ [33]) = 1 - ev e c := by
  refine exOK_of (fun x hx => ?_) (fun e rest h st hh => ?_)
  · rw [List.mem_append, List.mem_singleton] at hx
    rcases hx with hx | hx
    · exact h1.1 x hx
    · rw [hx]
      exact ⟨Or.inr (Or.inr (Or.inr (Or.inr (Or.inl rfl)))), by decide⟩
  · obtain ⟨s1, a1, a2, a3⟩ := h1.2 e ([33] ++ rest) h st hh
    refine ⟨ru s1 h (1 - s1 h), ?_, ?_, fun k hk => ?_⟩
    · rw [List.append_assoc, a1]
      exact exA_33 e rest h s1
    · rw [ru_at, a2]
    · rw [ru_ne (by omega), a3 k hk]
theorem exA_skip (e : Nat → Int32) (rest : List Int32) (h : Nat) (st : Nat → Int32) : ∀ c : List Int32, (∀ x ∈ c, x ≠ 59) → exA e (c ++ 59 :: rest) h true st = exA e rest h false st
  | [], _ => rfl
  | x :: c, hc => by
    have hx := hc x (List.mem_cons_self ..)
    show exA e (x :: (c ++ 59 :: rest)) h true st = _
    rw [exA, if_pos rfl, show decide (x ≠ 59) = true from decide_eq_true hx]
    exact exA_skip e rest h st c (fun y hy => hc y (List.mem_cons_of_mem _ hy))
/-- a clause: what it is worth (none: its condition doesn't hold) -/
def clOK (d : List Int32) (G : (Nat → Int32) → Option Int32) : Prop := (∀ x ∈ d, codeOk x) ∧ ∀ (e : Nat → Int32) (rest : List Int32) (st : Nat → Int32), (∃ v, G e = some v ∧ exA e (d ++ rest) 0 false st = v) ∨ (G e = none ∧ ∃ st', exA e (d ++ rest) 0 false st = exA e rest 0 false st')
theorem cl_sum {H : Nat} {c : List Int32} (h : exOK H c) : clOK (c ++ [59]) (fun e => some (ev e c)) := by
  refine ⟨fun x hx => ?_, fun e rest st => Or.inl ⟨_, rfl, ?_⟩⟩
  · rw [List.mem_append, List.mem_singleton] at hx
    rcases hx with hx | hx
    · exact (h.1 x hx).1
    · rw [hx]
      exact Or.inr (Or.inr (Or.inl rfl))
  · obtain ⟨s1, a1, a2, -⟩ := h.2 e ([59] ++ rest) 0 st (Nat.zero_le _)
    rw [List.append_assoc, a1]
    exact (exA_59 e rest 1 s1).trans a2
theorem cl_when {H : Nat} {c c2 : List Int32} (h : exOK H c) (h2 : exOK H c2) : clOK (c ++ [63] ++ c2 ++ [59]) (fun e => if ev e c = 0 then none else some (ev e c2)) := by
  refine ⟨fun x hx => ?_, fun e rest st => ?_⟩
  · rw [List.mem_append, List.mem_append, List.mem_append, List.mem_singleton, List.mem_singleton] at hx
    rcases hx with ((hx | hx) | hx) | hx
    · exact (h.1 x hx).1
    · rw [hx]
      exact Or.inr (Or.inr (Or.inr (Or.inl rfl)))
    · exact (h2.1 x hx).1
    · rw [hx]
      exact Or.inr (Or.inr (Or.inl rfl))
  · obtain ⟨s1, a1, a2, -⟩ := h.2 e ([63] ++ (c2 ++ ([59] ++ rest))) 0 st (Nat.zero_le _)
    have a3 : exA e (c ++ [63] ++ c2 ++ [59] ++ rest) 0 false st = exA e (c2 ++ ([59] ++ rest)) 0 (decide (s1 0 = 0)) s1 := by
      rw [List.append_assoc, List.append_assoc, List.append_assoc, a1]
      exact exA_63 e _ 1 s1
    rw [a3, a2]
    by_cases z : ev e c = 0
    · refine Or.inr ⟨if_pos z, s1, ?_⟩
      rw [show decide (ev e c = 0) = true from decide_eq_true z]
      exact exA_skip e rest 0 s1 c2 (fun x hx => (h2.1 x hx).2)
    · refine Or.inl ⟨_, if_neg z, ?_⟩
      rw [show decide (ev e c = 0) = false from decide_eq_false z]
      obtain ⟨s2, b1, b2, -⟩ := h2.2 e ([59] ++ rest) 0 s1 (Nat.zero_le _)
      rw [b1]
      exact (exA_59 e rest 1 s2).trans b2
/-- it doesn't matter what lay on the stack -/
def StI (cs : List Int32) : Prop := (∀ x ∈ cs, codeOk x) ∧ ∀ e st st', exA e cs 0 false st = exA e cs 0 false st'
theorem StI.nil : StI [] := ⟨fun x hx => absurd hx (List.not_mem_nil), fun _ _ _ => rfl⟩
theorem StI.cons {d cs : List Int32} {G : (Nat → Int32) → Option Int32} (h : clOK d G) (h2 : StI cs) : StI (d ++ cs) := by
  refine ⟨fun x hx => ?_, fun e st st' => ?_⟩
  · rw [List.mem_append] at hx
    rcases hx with hx | hx
    · exact h.1 x hx
    · exact h2.1 x hx
  · rcases h.2 e cs st with ⟨v, g1, g2⟩ | ⟨g1, s1, g2⟩
    · rcases h.2 e cs st' with ⟨v', k1, k2⟩ | ⟨k1, -⟩
      · rw [g2, k2]
        exact Option.some.inj (g1.symm.trans k1)
      · rw [g1] at k1
        cases k1
    · rcases h.2 e cs st' with ⟨v', k1, k2⟩ | ⟨k1, s2, k2⟩
      · rw [g1] at k1
        cases k1
      · rw [g2, k2]
        exact h2.2 e s1 s2
theorem StI.good {cs : List Int32} (h : StI cs) : GoodCode cs := ⟨h.1, fun e e' st ha => (exA_ag ha cs 0 false st h.1).trans (h.2 e st _)⟩
end OA
