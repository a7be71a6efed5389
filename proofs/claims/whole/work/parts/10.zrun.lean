/-! The pure machine without fuel: zW (from an instruction on), zC (a call), and a rule for each instruction. -/
section ZA
theorem ia_lp_0 {P : ia_T} {cal : Nat → List Value → ia_H → Option (Option Value × ia_H)} {ex : Nat → List Value → ia_H → Option (List Value × ia_H)} {own nL f pc len : Nat} {ini : Bool} {cc : ByteArray} {ret : Option FieldType} {lv : List (Nat × Value)} {st : List Value} {hp : ia_H} {i : Instr} (hd : decode cc pc = .ok (i, len)) (hk : ia_kind i = 0) : ia_lp P cal ex own ini cc nL ret (f + 1) pc lv st hp = (
    match ia_num i len st with
      | some st' => ia_lp P cal ex own ini cc nL ret f (pc + len) lv st' hp
      | none => none) := by
  rw [ia_lp, hd]
  simp only [hk]
  rfl
theorem ia_lp_1 {P : ia_T} {cal : Nat → List Value → ia_H → Option (Option Value × ia_H)} {ex : Nat → List Value → ia_H → Option (List Value × ia_H)} {own nL f pc len : Nat} {ini : Bool} {cc : ByteArray} {ret : Option FieldType} {lv : List (Nat × Value)} {st : List Value} {hp : ia_H} {i : Instr} (hd : decode cc pc = .ok (i, len)) (hk : ia_kind i = 1) : ia_lp P cal ex own ini cc nL ret (f + 1) pc lv st hp = (
    match ia_loc i len nL lv st with
      | some (lv', st') => ia_lp P cal ex own ini cc nL ret f (pc + len) lv' st' hp
      | none => none) := by
  rw [ia_lp, hd]
  simp only [hk]
  rfl
theorem ia_lp_2 {P : ia_T} {cal : Nat → List Value → ia_H → Option (Option Value × ia_H)} {ex : Nat → List Value → ia_H → Option (List Value × ia_H)} {own nL f pc len : Nat} {ini : Bool} {cc : ByteArray} {ret : Option FieldType} {lv : List (Nat × Value)} {st : List Value} {hp : ia_H} {i : Instr} (hd : decode cc pc = .ok (i, len)) (hk : ia_kind i = 2) : ia_lp P cal ex own ini cc nL ret (f + 1) pc lv st hp = (
    match ia_br i len pc st with
      | some (pc', st') => ia_lp P cal ex own ini cc nL ret f pc' lv st' hp
      | none => none) := by
  rw [ia_lp, hd]
  simp only [hk]
  rfl
theorem ia_lp_3 {P : ia_T} {cal : Nat → List Value → ia_H → Option (Option Value × ia_H)} {ex : Nat → List Value → ia_H → Option (List Value × ia_H)} {own nL f pc len : Nat} {ini : Bool} {cc : ByteArray} {ret : Option FieldType} {lv : List (Nat × Value)} {st : List Value} {hp : ia_H} {i : Instr} (hd : decode cc pc = .ok (i, len)) (hk : ia_kind i = 3) : ia_lp P cal ex own ini cc nL ret (f + 1) pc lv st hp = (
    match ia_rd P own i len st hp.1 hp.2.1 with
      | some st' => ia_lp P cal ex own ini cc nL ret f (pc + len) lv st' hp
      | none => none) := by
  rw [ia_lp, hd]
  simp only [hk]
  rfl
theorem ia_lp_4 {P : ia_T} {cal : Nat → List Value → ia_H → Option (Option Value × ia_H)} {ex : Nat → List Value → ia_H → Option (List Value × ia_H)} {own nL f pc len : Nat} {ini : Bool} {cc : ByteArray} {ret : Option FieldType} {lv : List (Nat × Value)} {st : List Value} {hp : ia_H} {i : Instr} (hd : decode cc pc = .ok (i, len)) (hk : ia_kind i = 4) : ia_lp P cal ex own ini cc nL ret (f + 1) pc lv st hp = (
    match ia_wr P own ini i len st hp.1 hp.2.1 with
      | some (st', h') => ia_lp P cal ex own ini cc nL ret f (pc + len) lv st' (h', hp.2)
      | none => none) := by
  rw [ia_lp, hd]
  simp only [hk]
  rfl
theorem ia_lp_5 {P : ia_T} {cal : Nat → List Value → ia_H → Option (Option Value × ia_H)} {ex : Nat → List Value → ia_H → Option (List Value × ia_H)} {own nL f pc len : Nat} {ini : Bool} {cc : ByteArray} {ret : Option FieldType} {lv : List (Nat × Value)} {st : List Value} {hp : ia_H} {i : Instr} (hd : decode cc pc = .ok (i, len)) (hk : ia_kind i = 5) : ia_lp P cal ex own ini cc nL ret (f + 1) pc lv st hp = (
    match ia_mk P own i len st hp.2.1 with
      | some (st', e, k) => if ia_okh hp.1 hp.2.1 = true ∧ ia_oks hp.2.1 lv st'.tail = true ∧ hp.2.1 < 1000000 then ia_lp P cal ex own ini cc nL ret f (pc + len) lv st' (va_up hp.1 hp.2.1 e, hp.2.1 + 1, hp.2.2.1 + 1, hp.2.2.2 + k) else none
      | none => none) := by
  rw [ia_lp, hd]
  simp only [hk]
  rfl
theorem ia_lp_6 {P : ia_T} {cal : Nat → List Value → ia_H → Option (Option Value × ia_H)} {ex : Nat → List Value → ia_H → Option (List Value × ia_H)} {own nL f pc len : Nat} {ini : Bool} {cc : ByteArray} {ret : Option FieldType} {lv : List (Nat × Value)} {st : List Value} {hp : ia_H} {i : Instr} (hd : decode cc pc = .ok (i, len)) (hk : ia_kind i = 6) : ia_lp P cal ex own ini cc nL ret (f + 1) pc lv st hp = (
    match ex pc st hp with
      | some (st', hp') => ia_lp P cal ex own ini cc nL ret f (pc + 3) lv st' hp'
      | none => match ia_prim P own i len st hp.1 hp.2.1 with
      | some (st', h') => ia_lp P cal ex own ini cc nL ret f (pc + 3) lv st' (h', hp.2)
      | none => match ia_inv P own i len st hp.1 hp.2.1 with
        | some (k, _, as, rest) => if ia_oks hp.2.1 lv rest = true ∧ (rest.map fun v => v.category).sum ≤ 8 then (match cal k as hp with
          | some (v, hp') => ia_lp P cal ex own ini cc nL ret f (pc + 3) lv (v.toList ++ rest) hp'
          | none => none) else none
        | none => match ia_cln P own i len st hp.1 hp.2.1 with
          | some (st', e, k) => if ia_okh hp.1 hp.2.1 = true ∧ ia_oks hp.2.1 lv st'.tail = true ∧ hp.2.1 < 1000000 then ia_lp P cal ex own ini cc nL ret f (pc + 3) lv st' (va_up hp.1 hp.2.1 e, hp.2.1 + 1, hp.2.2.1 + 1, hp.2.2.2 + k) else none
          | none => none) := by
  rw [ia_lp, hd]
  simp only [hk]
  rfl
theorem ia_lp_7 {P : ia_T} {cal : Nat → List Value → ia_H → Option (Option Value × ia_H)} {ex : Nat → List Value → ia_H → Option (List Value × ia_H)} {own nL f pc len : Nat} {ini : Bool} {cc : ByteArray} {ret : Option FieldType} {lv : List (Nat × Value)} {st : List Value} {hp : ia_H} {i : Instr} (hd : decode cc pc = .ok (i, len)) (hk : 7 ≤ ia_kind i) : ia_lp P cal ex own ini cc nL ret (f + 1) pc lv st hp = (
    match ia_ret i len ret st with
      | some v => some (v, hp)
      | none => none) := by
  rw [ia_lp, hd]
  obtain ⟨k, hk⟩ : ∃ k, ia_kind i = k + 7 := ⟨ia_kind i - 7, by omega⟩
  simp only [hk]
  rfl
theorem ia_lp_mono {P : ia_T} {cal cal' : Nat → List Value → ia_H → Option (Option Value × ia_H)} {ex : Nat → List Value → ia_H → Option (List Value × ia_H)} {own nL : Nat} {ini : Bool} {cc : ByteArray} {ret : Option FieldType} (hC : ∀ k as hp r, cal k as hp = some r → cal' k as hp = some r) :
    ∀ (f f' pc : Nat) (lv : List (Nat × Value)) (st : List Value) (hp : ia_H) (r : Option Value × ia_H), f ≤ f' → ia_lp P cal ex own ini cc nL ret f pc lv st hp = some r → ia_lp P cal' ex own ini cc nL ret f' pc lv st hp = some r := by
  intro f
  induction f with
  | zero => intro f' pc lv st hp r hf h; cases h
  | succ f ih =>
    intro f' pc lv st hp r hf h
    obtain ⟨f', rfl⟩ : ∃ g, f' = g + 1 := ⟨f' - 1, by omega⟩
    have hf : f ≤ f' := Nat.le_of_succ_le_succ hf
    cases hd : decode cc pc with
    | error e => rw [ia_lp, hd] at h; cases h
    | ok p =>
      obtain ⟨i, len⟩ := p
      rcases (show ia_kind i = 0 ∨ ia_kind i = 1 ∨ ia_kind i = 2 ∨ ia_kind i = 3 ∨ ia_kind i = 4 ∨ ia_kind i = 5 ∨ ia_kind i = 6 ∨ 7 ≤ ia_kind i by omega) with hk | hk | hk | hk | hk | hk | hk | hk
      · rw [ia_lp_0 hd hk] at h ⊢
        cases hs : ia_num i len st with
        | none => rw [hs] at h; cases h
        | some st' => rw [hs] at h; exact ih _ _ _ _ _ _ hf h
      · rw [ia_lp_1 hd hk] at h ⊢
        cases hs : ia_loc i len nL lv st with
        | none => rw [hs] at h; cases h
        | some st' => rw [hs] at h; exact ih _ _ _ _ _ _ hf h
      · rw [ia_lp_2 hd hk] at h ⊢
        cases hs : ia_br i len pc st with
        | none => rw [hs] at h; cases h
        | some st' => rw [hs] at h; exact ih _ _ _ _ _ _ hf h
      · rw [ia_lp_3 hd hk] at h ⊢
        cases hs : ia_rd P own i len st hp.1 hp.2.1 with
        | none => rw [hs] at h; cases h
        | some st' => rw [hs] at h; exact ih _ _ _ _ _ _ hf h
      · rw [ia_lp_4 hd hk] at h ⊢
        cases hs : ia_wr P own ini i len st hp.1 hp.2.1 with
        | none => rw [hs] at h; cases h
        | some st' => rw [hs] at h; exact ih _ _ _ _ _ _ hf h
      · rw [ia_lp_5 hd hk] at h ⊢
        cases hs : ia_mk P own i len st hp.2.1 with
        | none => rw [hs] at h; cases h
        | some st' =>
          rw [hs] at h
          dsimp only at h ⊢
          split at h
          · next hq => rw [if_pos hq]; exact ih _ _ _ _ _ _ hf h
          · cases h
      · rw [ia_lp_6 hd hk] at h ⊢
        cases hxx : ex pc st hp with
        | some w => rw [hxx] at h; exact ih _ _ _ _ _ _ hf h
        | none =>
        rw [hxx] at h
        dsimp only at h ⊢
        cases hs : ia_prim P own i len st hp.1 hp.2.1 with
        | some st' => rw [hs] at h; exact ih _ _ _ _ _ _ hf h
        | none =>
          rw [hs] at h
          dsimp only at h ⊢
          cases hi : ia_inv P own i len st hp.1 hp.2.1 with
          | some z =>
            rw [hi] at h
            dsimp only at h ⊢
            split at h
            · next hq =>
              rw [if_pos hq]
              cases hc : cal z.1 z.2.2.1 hp with
              | none => rw [hc] at h; cases h
              | some w => rw [hc] at h; rw [hC _ _ _ _ hc]; exact ih _ _ _ _ _ _ hf h
            · cases h
          | none =>
            rw [hi] at h
            dsimp only at h ⊢
            cases hn : ia_cln P own i len st hp.1 hp.2.1 with
            | none => rw [hn] at h; cases h
            | some w =>
              rw [hn] at h
              dsimp only at h ⊢
              split at h
              · next hq => rw [if_pos hq]; exact ih _ _ _ _ _ _ hf h
              · cases h
      · rw [ia_lp_7 hd hk] at h ⊢
        exact h
theorem ia_call_mono {P : ia_T} {F F' : Nat} (hF : F ≤ F') : ∀ (d d' k : Nat) (as : List Value) (hp : ia_H) (r : Option Value × ia_H), d ≤ d' → ia_call P F d k as hp = some r → ia_call P F' d' k as hp = some r := by
  intro d
  induction d with
  | zero => intro d' k as hp r _ h; cases h
  | succ d ih =>
    intro d' k as hp r hd h
    obtain ⟨d', rfl⟩ : ∃ g, d' = g + 1 := ⟨d' - 1, by omega⟩
    unfold ia_call at h ⊢
    cases hm : ia_mt P k with
    | none => rw [hm] at h; cases h
    | some q =>
      obtain ⟨own, y, cc, nL, ret, np⟩ := q
      rw [hm] at h
      try dsimp only at h ⊢
      split at h
      · next hl => rw [if_pos hl]; exact ia_lp_mono (fun k as hp r h => ih d' k as hp r (Nat.le_of_succ_le_succ hd) h) _ _ _ _ _ _ _ hF h
      · cases h
/-- from an instruction on, calls d deep at most: the body returns, and Q -/
def zW (P : ia_T) (ex : Nat → List Value → ia_H → Option (List Value × ia_H)) (d own : Nat) (ini : Bool) (cc : ByteArray) (nL : Nat) (ret : Option FieldType) (pc : Nat) (lv : List (Nat × Value)) (st : List Value) (hp : ia_H) (Q : Option Value → ia_H → Prop) : Prop :=
  ∃ (F f : Nat) (v : Option Value) (hp' : ia_H), ia_lp P (ia_call P F d) ex own ini cc nL ret f pc lv st hp = some (v, hp') ∧ Q v hp'
def zC (P : ia_T) (d k : Nat) (as : List Value) (hp : ia_H) (Q : Option Value → ia_H → Prop) : Prop :=
  ∃ (F : Nat) (v : Option Value) (hp' : ia_H), ia_call P F d k as hp = some (v, hp') ∧ Q v hp'
theorem zC.mono {P : ia_T} {d d' k : Nat} {as : List Value} {hp : ia_H} {Q : Option Value → ia_H → Prop} (h : zC P d k as hp Q) (hd : d ≤ d') : zC P d' k as hp Q := by
  obtain ⟨F, v, hp', h, q⟩ := h
  exact ⟨F, v, hp', ia_call_mono (Nat.le_refl _) _ _ _ _ _ _ hd h, q⟩
theorem zC.imp {P : ia_T} {d k : Nat} {as : List Value} {hp : ia_H} {Q Q' : Option Value → ia_H → Prop} (h : zC P d k as hp Q) (hq : ∀ v hp', Q v hp' → Q' v hp') : zC P d k as hp Q' := by
  obtain ⟨F, v, hp', h, q⟩ := h
  exact ⟨F, v, hp', h, hq _ _ q⟩
theorem zC_of {P : ia_T} {d k own nL np : Nat} {y : MethodName} {cc : ByteArray} {ret : Option FieldType} {as : List Value} {hp : ia_H} {Q : Option Value → ia_H → Prop} {ini : Bool} (hm : ia_mt P k = some (own, y, cc, nL, ret, np)) (hi : (y.name == "<init>") = ini) (hl : (lg_sl as).length ≤ nL) (h : zW P ia_nx d own ini cc nL ret 0 (lv_args 0 as) [] hp Q) : zC P (d + 1) k as hp Q := by
  obtain ⟨F, f, v, hp', h, q⟩ := h
  refine ⟨max F f, v, hp', ?_, q⟩
  unfold ia_call
  rw [hm]
  dsimp only
  rw [if_pos hl, hi]
  exact ia_lp_mono (fun k as hp r h => ia_call_mono (Nat.le_max_left F f) _ _ _ _ _ _ (Nat.le_refl _) h) _ _ _ _ _ _ _ (Nat.le_max_right F f) h
section R
variable {P : ia_T} {ex : Nat → List Value → ia_H → Option (List Value × ia_H)} {d own len pc pc' nL : Nat} {ini : Bool} {cc : ByteArray} {ret : Option FieldType} {lv lv' : List (Nat × Value)} {st st' : List Value} {hp : ia_H} {Q : Option Value → ia_H → Prop} {i : Instr}
theorem z_num (hd : decode cc pc = .ok (i, len)) (hk : ia_kind i = 0) (hs : ia_num i len st = some st') (k : zW P ex d own ini cc nL ret (pc + len) lv st' hp Q) : zW P ex d own ini cc nL ret pc lv st hp Q := by
  obtain ⟨F, f, v, hp', h, q⟩ := k
  exact ⟨F, f + 1, v, hp', by rw [ia_lp_0 hd hk, hs]; exact h, q⟩
theorem z_loc (hd : decode cc pc = .ok (i, len)) (hk : ia_kind i = 1) (hs : ia_loc i len nL lv st = some (lv', st')) (k : zW P ex d own ini cc nL ret (pc + len) lv' st' hp Q) : zW P ex d own ini cc nL ret pc lv st hp Q := by
  obtain ⟨F, f, v, hp', h, q⟩ := k
  exact ⟨F, f + 1, v, hp', by rw [ia_lp_1 hd hk, hs]; exact h, q⟩
theorem z_br (hd : decode cc pc = .ok (i, len)) (hk : ia_kind i = 2) (hs : ia_br i len pc st = some (pc', st')) (k : zW P ex d own ini cc nL ret pc' lv st' hp Q) : zW P ex d own ini cc nL ret pc lv st hp Q := by
  obtain ⟨F, f, v, hp', h, q⟩ := k
  exact ⟨F, f + 1, v, hp', by rw [ia_lp_2 hd hk, hs]; exact h, q⟩
theorem z_rd (hd : decode cc pc = .ok (i, len)) (hk : ia_kind i = 3) (hs : ia_rd P own i len st hp.1 hp.2.1 = some st') (k : zW P ex d own ini cc nL ret (pc + len) lv st' hp Q) : zW P ex d own ini cc nL ret pc lv st hp Q := by
  obtain ⟨F, f, v, hp', h, q⟩ := k
  exact ⟨F, f + 1, v, hp', by rw [ia_lp_3 hd hk, hs]; exact h, q⟩
theorem z_wr {h' : Nat → va_E} (hd : decode cc pc = .ok (i, len)) (hk : ia_kind i = 4) (hs : ia_wr P own ini i len st hp.1 hp.2.1 = some (st', h')) (k : zW P ex d own ini cc nL ret (pc + len) lv st' (h', hp.2) Q) : zW P ex d own ini cc nL ret pc lv st hp Q := by
  obtain ⟨F, f, v, hp', h, q⟩ := k
  exact ⟨F, f + 1, v, hp', by rw [ia_lp_4 hd hk, hs]; exact h, q⟩
theorem z_mk {e : va_E} {z : Nat} (hd : decode cc pc = .ok (i, len)) (hk : ia_kind i = 5) (hs : ia_mk P own i len st hp.2.1 = some (st', e, z)) (ho : ia_okh hp.1 hp.2.1 = true ∧ ia_oks hp.2.1 lv st'.tail = true ∧ hp.2.1 < 1000000) (k : zW P ex d own ini cc nL ret (pc + len) lv st' (va_up hp.1 hp.2.1 e, hp.2.1 + 1, hp.2.2.1 + 1, hp.2.2.2 + z) Q) : zW P ex d own ini cc nL ret pc lv st hp Q := by
  obtain ⟨F, f, v, hp', h, q⟩ := k
  exact ⟨F, f + 1, v, hp', by rw [ia_lp_5 hd hk, hs]; dsimp only; rw [if_pos ho]; exact h, q⟩
theorem z_prim {h' : Nat → va_E} (hd : decode cc pc = .ok (i, 3)) (hk : ia_kind i = 6) (hs : ia_prim P own i 3 st hp.1 hp.2.1 = some (st', h')) (hx : ex pc st hp = none) (k : zW P ex d own ini cc nL ret (pc + 3) lv st' (h', hp.2) Q) : zW P ex d own ini cc nL ret pc lv st hp Q := by
  obtain ⟨F, f, v, hp', h, q⟩ := k
  exact ⟨F, f + 1, v, hp', by rw [ia_lp_6 hd hk, hx]; dsimp only; rw [hs]; exact h, q⟩
theorem z_inv {k kd : Nat} {as rest : List Value} {Q1 : Option Value → ia_H → Prop} (hd : decode cc pc = .ok (i, 3)) (hk : ia_kind i = 6) (hs : ia_prim P own i 3 st hp.1 hp.2.1 = none) (hx : ex pc st hp = none) (hi : ia_inv P own i 3 st hp.1 hp.2.1 = some (k, kd, as, rest)) (ho : ia_oks hp.2.1 lv rest = true) (hc : (rest.map fun v => v.category).sum ≤ 8) (hcall : zC P d k as hp Q1)
    (kk : ∀ (v : Option Value) (hp' : ia_H), Q1 v hp' → zW P ex d own ini cc nL ret (pc + 3) lv (v.toList ++ rest) hp' Q) : zW P ex d own ini cc nL ret pc lv st hp Q := by
  obtain ⟨F1, v1, hp1, h1, q1⟩ := hcall
  obtain ⟨F, f, v, hp', h, q⟩ := kk v1 hp1 q1
  refine ⟨max F F1, f + 1, v, hp', ?_, q⟩
  rw [ia_lp_6 hd hk, hx]; dsimp only; rw [hs]; dsimp only; rw [hi]; dsimp only; rw [if_pos ⟨ho, hc⟩, ia_call_mono (Nat.le_max_right F F1) _ _ _ _ _ _ (Nat.le_refl _) h1]
  exact ia_lp_mono (fun k as hp r h => ia_call_mono (Nat.le_max_left F F1) _ _ _ _ _ _ (Nat.le_refl _) h) _ _ _ _ _ _ _ (Nat.le_refl _) h
theorem z_ex {hp1 : ia_H} (hd : decode cc pc = .ok (i, len)) (hk : ia_kind i = 6) (hs : ex pc st hp = some (st', hp1)) (k : zW P ex d own ini cc nL ret (pc + 3) lv st' hp1 Q) : zW P ex d own ini cc nL ret pc lv st hp Q := by
  obtain ⟨F, f, v, hp', h, q⟩ := k
  exact ⟨F, f + 1, v, hp', by rw [ia_lp_6 hd hk, hs]; exact h, q⟩
theorem z_ret {v : Option Value} (hd : decode cc pc = .ok (i, len)) (hk : ia_kind i = 7) (hs : ia_ret i len ret st = some v) (q : Q v hp) : zW P ex d own ini cc nL ret pc lv st hp Q :=
  ⟨0, 1, v, hp, by rw [ia_lp_7 hd (by omega), hs], q⟩
end R
end ZA
