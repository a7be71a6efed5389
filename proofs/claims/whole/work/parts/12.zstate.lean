/-! A side's state as functions, the heap that holds it, and the rules of the instructions that read and write it. -/
section ZC
/-- numbers by cell and place; references and longs that change; lengths of rows made later; how many cells there are -/
abbrev zS : Type := (Nat → Nat → Int32) × (Nat → Nat → Value) × (Nat → Nat) × Nat
def zu {α : Type} (f : Nat → Nat → α) (a j : Nat) (x : α) : Nat → Nat → α := fun b k => if b = a ∧ k = j then x else f b k
theorem zu_at {α : Type} (f : Nat → Nat → α) (a j : Nat) (x : α) : zu f a j x a j = x := if_pos ⟨rfl, rfl⟩
theorem zu_nj {α : Type} (f : Nat → Nat → α) {a j k : Nat} (b : Nat) (x : α) (h : k ≠ j) : zu f a j x b k = f b k := if_neg (fun q => h q.2)
theorem zu_na {α : Type} (f : Nat → Nat → α) {a b : Nat} (j k : Nat) (x : α) (h : b ≠ a) : zu f a j x b k = f b k := if_neg (fun q => h q.1)
def sV (S : zS) (a j : Nat) (x : Int32) : zS := (zu S.1 a j x, S.2)
def sK (S : zS) (a j : Nat) (v : Value) : zS := (S.1, zu S.2.1 a j v, S.2.2)
/-- a row b's n numbers from dp on become those of a from sp on -/
def sC (S : zS) (a sp b dp n : Nat) : zS := (fun c k => if c = b ∧ dp ≤ k ∧ k < dp + n then S.1 a (sp + (k - dp)) else S.1 c k, S.2)
/-- a cell's form: 100 + its class, or an array's kind (0 int, 1 byte, 2 boolean, 4 rows, 5 ints whose length the state has); its length; its fields: 0 a number, 1 what stands there for good, 2 what changes -/
abbrev zD : Type := Nat × Nat × List (Nat × Value)
def zfv (S : zS) (a j : Nat) (fd : Nat × Value) : Value := if fd.1 = 0 then .int (S.1 a j) else if fd.1 = 1 then fd.2 else S.2.1 a j
def zfs (S : zS) (a : Nat) : Nat → List (Nat × Value) → List Value
  | _, [] => []
  | j, fd :: l => zfv S a j fd :: zfs S a (j + 1) l
def zrf (v : Value) : Option Nat := match v with
  | .ref a => some a
  | _ => none
def zen (S : zS) (a : Nat) (e : zD) : va_E := if 100 ≤ e.1 then .inr (e.1 - 100, zfs S a 0 e.2.2) else if e.1 = 4 then .inl (4, e.2.1, .inr (.inr (.inr (.inr (fun j => zrf (S.2.1 a j)))))) else if e.1 = 5 then .inl (0, S.2.2.1 a, .inl (S.1 a)) else .inl (e.1, e.2.1, .inl (S.1 a))
/-- the heap holds the state; what isn't the side's is as in h0 -/
def zE (D : Nat → Option zD) (h0 : Nat → va_E) (S : zS) (hp : ia_H) : Prop := S.2.2.2 = hp.2.1 ∧ (∀ a e, D a = some e → a < hp.2.1 ∧ hp.1 a = zen S a e) ∧ ∀ a, D a = none → hp.1 a = h0 a
theorem zfs_get (S : zS) (a : Nat) : ∀ (l : List (Nat × Value)) (j k : Nat), (zfs S a j l)[k]? = (l[k]?).map (fun fd => zfv S a (j + k) fd)
  | [], j, k => by simp [zfs]
  | fd :: l, j, 0 => by simp [zfs]
  | fd :: l, j, k + 1 => by
    show (zfs S a (j + 1) l)[k]? = (l[k]?).map _
    rw [zfs_get S a l (j + 1) k, show j + 1 + k = j + (k + 1) by omega]
theorem zfs_len (S : zS) (a : Nat) : ∀ (l : List (Nat × Value)) (j : Nat), (zfs S a j l).length = l.length
  | [], j => rfl
  | fd :: l, j => by show (zfs S a (j + 1) l).length + 1 = l.length + 1; rw [zfs_len S a l]
theorem zfs_congr {S S' : zS} {a : Nat} : ∀ (l : List (Nat × Value)) (j : Nat), (∀ k, j ≤ k → S'.1 a k = S.1 a k ∧ S'.2.1 a k = S.2.1 a k) → zfs S' a j l = zfs S a j l
  | [], j, h => rfl
  | fd :: l, j, h => by
    show zfv S' a j fd :: zfs S' a (j + 1) l = zfv S a j fd :: zfs S a (j + 1) l
    rw [zfs_congr l (j + 1) (fun k hk => h k (by omega))]
    unfold zfv
    rw [(h j (Nat.le_refl _)).1, (h j (Nat.le_refl _)).2]
theorem zfs_setI (S : zS) (a : Nat) (x : Int32) : ∀ (l : List (Nat × Value)) (j k : Nat) (v0 : Value), l[k]? = some (0, v0) → (zfs S a j l).set k (.int x) = zfs (sV S a (j + k) x) a j l
  | [], j, k, v0, h => by cases h
  | fd :: l, j, 0, v0, h => by
    cases h
    show Value.int x :: zfs S a (j + 1) l = zfv (sV S a (j + 0) x) a j (0, v0) :: zfs (sV S a (j + 0) x) a (j + 1) l
    rw [zfs_congr (S := S) (S' := sV S a (j + 0) x) l (j + 1) (fun k hk => ⟨zu_nj _ _ _ (by omega), rfl⟩)]
    show _ = Value.int (zu S.1 a j x a j) :: _
    rw [zu_at]
  | fd :: l, j, k + 1, v0, h => by
    show zfv S a j fd :: (zfs S a (j + 1) l).set k (.int x) = zfv (sV S a (j + (k + 1)) x) a j fd :: zfs (sV S a (j + (k + 1)) x) a (j + 1) l
    rw [zfs_setI S a x l (j + 1) k v0 h, show j + 1 + k = j + (k + 1) by omega]
    congr 1
    unfold zfv
    rw [show (sV S a (j + (k + 1)) x).1 a j = S.1 a j from zu_nj _ _ _ (by omega)]
    rfl
theorem zfs_setK (S : zS) (a : Nat) (v : Value) : ∀ (l : List (Nat × Value)) (j k : Nat) (v0 : Value), l[k]? = some (2, v0) → (zfs S a j l).set k v = zfs (sK S a (j + k) v) a j l
  | [], j, k, v0, h => by cases h
  | fd :: l, j, 0, v0, h => by
    cases h
    show v :: zfs S a (j + 1) l = zfv (sK S a (j + 0) v) a j (2, v0) :: zfs (sK S a (j + 0) v) a (j + 1) l
    rw [zfs_congr (S := S) (S' := sK S a (j + 0) v) l (j + 1) (fun k hk => ⟨rfl, zu_nj _ _ _ (by omega)⟩)]
    show _ = zu S.2.1 a j v a j :: _
    rw [zu_at]
  | fd :: l, j, k + 1, v0, h => by
    show zfv S a j fd :: (zfs S a (j + 1) l).set k v = zfv (sK S a (j + (k + 1)) v) a j fd :: zfs (sK S a (j + (k + 1)) v) a (j + 1) l
    rw [zfs_setK S a v l (j + 1) k v0 h, show j + 1 + k = j + (k + 1) by omega]
    congr 1
    unfold zfv
    rw [show (sK S a (j + (k + 1)) v).2.1 a j = S.2.1 a j from zu_nj _ _ _ (by omega)]
    rfl
theorem zen_congr {S S' : zS} {a : Nat} {e : zD} (h1 : S'.1 a = S.1 a) (h2 : S'.2.1 a = S.2.1 a) (h3 : S'.2.2.1 a = S.2.2.1 a) : zen S' a e = zen S a e := by
  unfold zen
  rw [h1, h2, h3, zfs_congr (S := S) (S' := S') e.2.2 0 (fun k _ => ⟨by rw [h1], by rw [h2]⟩)]
/-- one cell written -/
theorem zE.put {D : Nat → Option zD} {h0 : Nat → va_E} {S S' : zS} {hp : ia_H} (h : zE D h0 S hp) {a : Nat} {e : zD} {x : va_E} (ha : D a = some e) (hx : zen S' a e = x) (hn : S'.2.2.2 = S.2.2.2) (ho : ∀ b, b ≠ a → S'.1 b = S.1 b ∧ S'.2.1 b = S.2.1 b ∧ S'.2.2.1 b = S.2.2.1 b) : zE D h0 S' (va_up hp.1 a x, hp.2) := by
  refine ⟨hn.trans h.1, fun b e' hb => ?_, fun b hb => ?_⟩
  · refine ⟨(h.2.1 b e' hb).1, ?_⟩
    by_cases hba : b = a
    · subst hba
      cases ha.symm.trans hb
      show va_up hp.1 b x b = _
      rw [va_up_self, hx]
    · show va_up hp.1 a x b = _
      rw [va_up_ne _ _ hba, (h.2.1 b e' hb).2, zen_congr (S := S) (S' := S') (ho b hba).1 (ho b hba).2.1 (ho b hba).2.2]
  · have hba : b ≠ a := fun q => by subst q; rw [ha] at hb; cases hb
    show va_up hp.1 a x b = _
    rw [va_up_ne _ _ hba]
    exact h.2.2 b hb
theorem zu_row {α : Type} (f : Nat → Nat → α) (a j : Nat) (x : α) {b : Nat} (h : b ≠ a) : zu f a j x b = f b := by
  funext k
  exact zu_na f j k x h
theorem zu_upd (f : Nat → Nat → Int32) (a j : Nat) (x : Int32) : zu f a j x a = upd (f a) j x := by
  funext k
  unfold zu upd
  by_cases h : k = j
  · rw [if_pos ⟨rfl, h⟩, if_pos h]
  · rw [if_neg (fun q => h q.2), if_neg h]
section R
variable {P : ia_T} {ex : Nat → List Value → ia_H → Option (List Value × ia_H)} {d own pc nL : Nat} {ini : Bool} {cc : ByteArray} {ret : Option FieldType} {lv : List (Nat × Value)} {st : List Value} {hp : ia_H} {Q : Option Value → ia_H → Prop} {D : Nat → Option zD} {h0 : Nat → va_E} {S : zS} {a x k l c1 : Nat} {fds : List (Nat × Value)}
theorem z_at (hE : zE D h0 S hp) {e : zD} (ha : D a = some e) : ia_at P hp.1 hp.2.1 a = some (zen S a e) := by
  unfold ia_at
  rw [if_pos (hE.2.1 a e ha).1, (hE.2.1 a e ha).2]
theorem z_obj {ci : Nat} (hc : c1 = 100 + ci) : zen S a (c1, l, fds) = .inr (ci, zfs S a 0 fds) := by
  subst hc
  unfold zen
  rw [if_pos (Nat.le_add_right _ _), Nat.add_sub_cancel_left]
theorem z_getv {ci : Nat} {fd : Nat × Value} (hd : decode cc pc = .ok (.getfield x, 3)) (ht : ia_tF P own x = some (ci, k)) (hE : zE D h0 S hp) (ha : D a = some (c1, l, fds)) (hc : c1 = 100 + ci) (hf : fds[k]? = some fd) (kk : zW P ex d own ini cc nL ret (pc + 3) lv (zfv S a k fd :: st) hp Q) : zW P ex d own ini cc nL ret pc lv (.ref a :: st) hp Q := by
  refine z_rd hd rfl ?_ kk
  unfold ia_rd
  simp only [ht, z_at (P := P) hE ha, z_obj (S := S) (a := a) (l := l) (fds := fds) hc]
  rw [if_pos trivial, zfs_get, hf]
  simp only [Option.map_some, Nat.zero_add]
/-- a number's field; what stands there for good; what changes -/
theorem z_getI {ci : Nat} {v0 : Value} (hd : decode cc pc = .ok (.getfield x, 3)) (ht : ia_tF P own x = some (ci, k)) (hE : zE D h0 S hp) (ha : D a = some (c1, l, fds)) (hc : c1 = 100 + ci) (hf : fds[k]? = some (0, v0)) (kk : zW P ex d own ini cc nL ret (pc + 3) lv (.int (S.1 a k) :: st) hp Q) : zW P ex d own ini cc nL ret pc lv (.ref a :: st) hp Q := z_getv hd ht hE ha hc hf kk
theorem z_getC {ci : Nat} {v : Value} (hd : decode cc pc = .ok (.getfield x, 3)) (ht : ia_tF P own x = some (ci, k)) (hE : zE D h0 S hp) (ha : D a = some (c1, l, fds)) (hc : c1 = 100 + ci) (hf : fds[k]? = some (1, v)) (kk : zW P ex d own ini cc nL ret (pc + 3) lv (v :: st) hp Q) : zW P ex d own ini cc nL ret pc lv (.ref a :: st) hp Q := z_getv hd ht hE ha hc hf kk
theorem z_getK {ci : Nat} {v0 : Value} (hd : decode cc pc = .ok (.getfield x, 3)) (ht : ia_tF P own x = some (ci, k)) (hE : zE D h0 S hp) (ha : D a = some (c1, l, fds)) (hc : c1 = 100 + ci) (hf : fds[k]? = some (2, v0)) (kk : zW P ex d own ini cc nL ret (pc + 3) lv (S.2.1 a k :: st) hp Q) : zW P ex d own ini cc nL ret pc lv (.ref a :: st) hp Q := z_getv hd ht hE ha hc hf kk
theorem z_putI {ci : Nat} {v0 : Value} {y : Int32} (hd : decode cc pc = .ok (.putfield x, 3)) (ht : ia_tF P own x = some (ci, k)) (hE : zE D h0 S hp) (ha : D a = some (c1, l, fds)) (hc : c1 = 100 + ci) (hf : fds[k]? = some (0, v0)) (hy : ia_fit (ia_ty P ci k) (.int y) = true) (hfin : ia_fin P ci k = false) (kk : ∀ h', zE D h0 (sV S a k y) (h', hp.2) → zW P ex d own ini cc nL ret (pc + 3) lv st (h', hp.2) Q) : zW P ex d own ini cc nL ret pc lv (.int y :: .ref a :: st) hp Q := by
  have hh := (hE.2.1 a _ ha).2
  rw [z_obj hc] at hh
  refine z_wr hd rfl ?_ (kk _ (hE.put (S' := sV S a k y) ha (z_obj hc) rfl (fun b hb => ⟨zu_row _ _ _ _ hb, rfl, rfl⟩)))
  unfold ia_wr
  simp only [ht, hh]
  rw [if_pos ⟨(hE.2.1 a _ ha).1, trivial, by rw [zfs_len]; exact (List.getElem?_eq_some_iff.mp hf).1, hy, Or.inl hfin⟩, zfs_setI S a y fds 0 k v0 hf, Nat.zero_add]
theorem z_putK {ci : Nat} {v0 v : Value} (hd : decode cc pc = .ok (.putfield x, 3)) (ht : ia_tF P own x = some (ci, k)) (hE : zE D h0 S hp) (ha : D a = some (c1, l, fds)) (hc : c1 = 100 + ci) (hf : fds[k]? = some (2, v0)) (hy : ia_fit (ia_ty P ci k) v = true) (hfin : ia_fin P ci k = false) (kk : ∀ h', zE D h0 (sK S a k v) (h', hp.2) → zW P ex d own ini cc nL ret (pc + 3) lv st (h', hp.2) Q) : zW P ex d own ini cc nL ret pc lv (v :: .ref a :: st) hp Q := by
  have hh := (hE.2.1 a _ ha).2
  rw [z_obj hc] at hh
  refine z_wr hd rfl ?_ (kk _ (hE.put (S' := sK S a k v) ha (z_obj hc) rfl (fun b hb => ⟨rfl, zu_row _ _ _ _ hb, rfl⟩)))
  unfold ia_wr
  simp only [ht, hh]
  rw [if_pos ⟨(hE.2.1 a _ ha).1, trivial, by rw [zfs_len]; exact (List.getElem?_eq_some_iff.mp hf).1, hy, Or.inl hfin⟩, zfs_setK S a v fds 0 k v0 hf, Nat.zero_add]
variable {j : Int32} {N : Nat}
theorem z_iaload (hd : decode cc pc = .ok (.iaload, 1)) (hE : zE D h0 S hp) (ha : D a = some (0, N, fds)) (hj : ia_in j N = true) (kk : zW P ex d own ini cc nL ret (pc + 1) lv (.int (S.1 a j.toNatClampNeg) :: st) hp Q) : zW P ex d own ini cc nL ret pc lv (.int j :: .ref a :: st) hp Q := by
  refine z_rd hd rfl ?_ kk
  unfold ia_rd
  simp only [z_at (P := P) hE ha]
  exact if_pos hj
theorem z_ialoadD (hd : decode cc pc = .ok (.iaload, 1)) (hE : zE D h0 S hp) (ha : D a = some (5, N, fds)) (hj : ia_in j (S.2.2.1 a) = true) (kk : zW P ex d own ini cc nL ret (pc + 1) lv (.int (S.1 a j.toNatClampNeg) :: st) hp Q) : zW P ex d own ini cc nL ret pc lv (.int j :: .ref a :: st) hp Q := by
  refine z_rd hd rfl ?_ kk
  unfold ia_rd
  simp only [z_at (P := P) hE ha]
  exact if_pos hj
theorem z_ialoadC {f : Nat → Int32} (hd : decode cc pc = .ok (.iaload, 1)) (ha : 1000000 ≤ a) (hn : hp.2.1 ≤ 1000000) (hc : ia_hc P a = .inl (0, N, .inl f)) (hj : ia_in j N = true) (kk : zW P ex d own ini cc nL ret (pc + 1) lv (.int (f j.toNatClampNeg) :: st) hp Q) : zW P ex d own ini cc nL ret pc lv (.int j :: .ref a :: st) hp Q := by
  refine z_rd hd rfl ?_ kk
  have hat : ia_at P hp.1 hp.2.1 a = some (.inl (0, N, .inl f)) := by
    unfold ia_at
    rw [if_neg (by omega), if_pos ha, hc]
  unfold ia_rd
  simp only [hat]
  exact if_pos hj
theorem z_baload (hd : decode cc pc = .ok (.baload, 1)) (hE : zE D h0 S hp) (ha : D a = some (1, N, fds)) (hj : ia_in j N = true) (kk : zW P ex d own ini cc nL ret (pc + 1) lv (.int (S.1 a j.toNatClampNeg) :: st) hp Q) : zW P ex d own ini cc nL ret pc lv (.int j :: .ref a :: st) hp Q := by
  refine z_rd hd rfl ?_ kk
  unfold ia_rd
  simp only [z_at (P := P) hE ha]
  exact if_pos hj
theorem z_baloadC {f : Nat → Int32} (hd : decode cc pc = .ok (.baload, 1)) (ha : 1000000 ≤ a) (hn : hp.2.1 ≤ 1000000) (hc : ia_hc P a = .inl (1, N, .inl f)) (hj : ia_in j N = true) (kk : zW P ex d own ini cc nL ret (pc + 1) lv (.int (f j.toNatClampNeg) :: st) hp Q) : zW P ex d own ini cc nL ret pc lv (.int j :: .ref a :: st) hp Q := by
  refine z_rd hd rfl ?_ kk
  have hat : ia_at P hp.1 hp.2.1 a = some (.inl (1, N, .inl f)) := by
    unfold ia_at
    rw [if_neg (by omega), if_pos ha, hc]
  unfold ia_rd
  simp only [hat]
  exact if_pos hj
theorem z_zaload (hd : decode cc pc = .ok (.baload, 1)) (hE : zE D h0 S hp) (ha : D a = some (2, N, fds)) (hj : ia_in j N = true) (kk : zW P ex d own ini cc nL ret (pc + 1) lv (.int (S.1 a j.toNatClampNeg) :: st) hp Q) : zW P ex d own ini cc nL ret pc lv (.int j :: .ref a :: st) hp Q := by
  refine z_rd hd rfl ?_ kk
  unfold ia_rd
  simp only [z_at (P := P) hE ha]
  exact if_pos hj
theorem z_aaload (hd : decode cc pc = .ok (.aaload, 1)) (hE : zE D h0 S hp) (ha : D a = some (4, N, fds)) (hj : ia_in j N = true) {v : Value} (hv : S.2.1 a j.toNatClampNeg = v) (hr : ia_ofo (zrf v) = v) (kk : zW P ex d own ini cc nL ret (pc + 1) lv (v :: st) hp Q) : zW P ex d own ini cc nL ret pc lv (.int j :: .ref a :: st) hp Q := by
  refine z_rd hd rfl ?_ kk
  unfold ia_rd
  simp only [z_at (P := P) hE ha]
  refine (if_pos hj).trans ?_
  show some (ia_ofo (zrf (S.2.1 a j.toNatClampNeg)) :: st) = _
  rw [hv, hr]
theorem z_alen (hd : decode cc pc = .ok (.arraylength, 1)) (hE : zE D h0 S hp) (ha : D a = some (c1, N, fds)) (hc : c1 < 3) {v : Int32} (hv : Int32.ofNat N = v) (kk : zW P ex d own ini cc nL ret (pc + 1) lv (.int v :: st) hp Q) : zW P ex d own ini cc nL ret pc lv (.ref a :: st) hp Q := by
  refine z_rd hd rfl ?_ kk
  have hz : zen S a (c1, N, fds) = .inl (c1, N, .inl (S.1 a)) := by
    unfold zen
    rw [if_neg (by dsimp only; omega), if_neg (by dsimp only; omega), if_neg (by dsimp only; omega)]
  unfold ia_rd
  simp only [z_at (P := P) hE ha, hz]
  rw [if_pos (show c1 < 5 by omega), hv]
theorem z_alenD (hd : decode cc pc = .ok (.arraylength, 1)) (hE : zE D h0 S hp) (ha : D a = some (5, N, fds)) (kk : zW P ex d own ini cc nL ret (pc + 1) lv (.int (Int32.ofNat (S.2.2.1 a)) :: st) hp Q) : zW P ex d own ini cc nL ret pc lv (.ref a :: st) hp Q := by
  refine z_rd hd rfl ?_ kk
  unfold ia_rd
  simp only [z_at (P := P) hE ha]
  rfl
theorem z_alenC {t : Nat} {f : Nat → Int32} (hd : decode cc pc = .ok (.arraylength, 1)) (ha : 1000000 ≤ a) (hn : hp.2.1 ≤ 1000000) (hc : ia_hc P a = .inl (t, N, .inl f)) (ht : t < 5) {v : Int32} (hv : Int32.ofNat N = v) (kk : zW P ex d own ini cc nL ret (pc + 1) lv (.int v :: st) hp Q) : zW P ex d own ini cc nL ret pc lv (.ref a :: st) hp Q := by
  refine z_rd hd rfl ?_ kk
  have hat : ia_at P hp.1 hp.2.1 a = some (.inl (t, N, .inl f)) := by
    unfold ia_at
    rw [if_neg (by omega), if_pos ha, hc]
  unfold ia_rd
  simp only [hat]
  rw [if_pos ht, hv]
theorem z_getCC {ci : Nat} {v : Value} {fs : List Value} (hd : decode cc pc = .ok (.getfield x, 3)) (ht : ia_tF P own x = some (ci, k)) (ha : 1000000 ≤ a) (hn : hp.2.1 ≤ 1000000) (hc : ia_hc P a = .inr (ci, fs)) (hf : fs[k]? = some v) (kk : zW P ex d own ini cc nL ret (pc + 3) lv (v :: st) hp Q) : zW P ex d own ini cc nL ret pc lv (.ref a :: st) hp Q := by
  refine z_rd hd rfl ?_ kk
  have hat : ia_at P hp.1 hp.2.1 a = some (.inr (ci, fs)) := by
    unfold ia_at
    rw [if_neg (by omega), if_pos ha, hc]
  unfold ia_rd
  simp only [ht, hat]
  rw [if_pos trivial, hf]
theorem z_iastore {y : Int32} (hd : decode cc pc = .ok (.iastore, 1)) (hE : zE D h0 S hp) (ha : D a = some (0, N, fds)) (hj : ia_in j N = true) (kk : ∀ h', zE D h0 (sV S a j.toNatClampNeg y) (h', hp.2) → zW P ex d own ini cc nL ret (pc + 1) lv st (h', hp.2) Q) : zW P ex d own ini cc nL ret pc lv (.int y :: .int j :: .ref a :: st) hp Q := by
  have hh : hp.1 a = .inl (0, N, .inl (S.1 a)) := (hE.2.1 a _ ha).2
  refine z_wr hd rfl ?_ (kk _ (hE.put (S' := sV S a j.toNatClampNeg y) (x := .inl (0, N, .inl (zu S.1 a j.toNatClampNeg y a))) ha rfl rfl (fun b hb => ⟨zu_row _ _ _ _ hb, rfl, rfl⟩)))
  unfold ia_wr
  simp only [hh, zu_upd]
  exact if_pos ⟨(hE.2.1 a _ ha).1, hj⟩
theorem z_bastore {y : Int32} (hd : decode cc pc = .ok (.bastore, 1)) (hE : zE D h0 S hp) (ha : D a = some (1, N, fds)) (hj : ia_in j N = true) (kk : ∀ h', zE D h0 (sV S a j.toNatClampNeg (vp_nar .byte y)) (h', hp.2) → zW P ex d own ini cc nL ret (pc + 1) lv st (h', hp.2) Q) : zW P ex d own ini cc nL ret pc lv (.int y :: .int j :: .ref a :: st) hp Q := by
  have hh : hp.1 a = .inl (1, N, .inl (S.1 a)) := (hE.2.1 a _ ha).2
  refine z_wr hd rfl ?_ (kk _ (hE.put (S' := sV S a j.toNatClampNeg (vp_nar .byte y)) (x := .inl (1, N, .inl (zu S.1 a j.toNatClampNeg (vp_nar .byte y) a))) ha rfl rfl (fun b hb => ⟨zu_row _ _ _ _ hb, rfl, rfl⟩)))
  unfold ia_wr
  simp only [hh, zu_upd]
  exact if_pos ⟨(hE.2.1 a _ ha).1, hj⟩
theorem z_zastore {y : Int32} (hd : decode cc pc = .ok (.bastore, 1)) (hE : zE D h0 S hp) (ha : D a = some (2, N, fds)) (hj : ia_in j N = true) (kk : ∀ h', zE D h0 (sV S a j.toNatClampNeg (vp_nar .boolean y)) (h', hp.2) → zW P ex d own ini cc nL ret (pc + 1) lv st (h', hp.2) Q) : zW P ex d own ini cc nL ret pc lv (.int y :: .int j :: .ref a :: st) hp Q := by
  have hh : hp.1 a = .inl (2, N, .inl (S.1 a)) := (hE.2.1 a _ ha).2
  refine z_wr hd rfl ?_ (kk _ (hE.put (S' := sV S a j.toNatClampNeg (vp_nar .boolean y)) (x := .inl (2, N, .inl (zu S.1 a j.toNatClampNeg (vp_nar .boolean y) a))) ha rfl rfl (fun b hb => ⟨zu_row _ _ _ _ hb, rfl, rfl⟩)))
  unfold ia_wr
  simp only [hh, zu_upd]
  exact if_pos ⟨(hE.2.1 a _ ha).1, hj⟩
end R
end ZC
