/-! A pure machine: cells by number, references by number; what it answers the machine answers too (03, 04). -/
/-- a value, its reference turned from a number into an address -/
def ia_v (ad : Nat → Nat) (v : Value) : Value := match v with
  | .ref a => .ref (ad a)
  | v => v
theorem ia_v_cat (ad : Nat → Nat) (v : Value) : (ia_v ad v).category = v.category := by cases v <;> rfl
def ia_a (ad : Nat → Nat) (x : vp_A) : vp_A := match x with
  | (n, .inr (.inr (.inr (.inr f)))) => (n, .inr (.inr (.inr (.inr (fun j => if j < n then (f j).map ad else none)))))
  | x => x
/-- a cell; the array classes by their numbers: 0 int, 1 byte, 2 boolean, 3 long, 4 rows of int -/
def ia_e (cy ad : Nat → Nat) (e : va_E) : va_E := match e with
  | .inl (t, x) => .inl (cy t, ia_a ad x)
  | .inr (c, fs) => .inr (c, fs.map (ia_v ad))
/-- the world: the first n cells -/
def ia_w (cy ad : Nat → Nat) (h : Nat → va_E) (n : Nat) : va_W := (List.range n).map (fun k => (ad k, ia_e cy ad (h k)))
theorem ia_w_get {cy ad : Nat → Nat} {h : Nat → va_E} {n k : Nat} (hk : k < n) : (ia_w cy ad h n)[k]? = some (ad k, ia_e cy ad (h k)) := by
  simp [ia_w, hk]
theorem ia_w_no {cy ad : Nat → Nat} {h : Nat → va_E} {n k : Nat} (hk : ¬ k < n) : (ia_w cy ad h n)[k]? = none := by
  simp [ia_w]; omega
theorem ia_w_set {cy ad : Nat → Nat} {h : Nat → va_E} {n k : Nat} {e : va_E} (hk : k < n) : (ia_w cy ad h n).set k (ad k, ia_e cy ad e) = ia_w cy ad (va_up h k e) n := by
  apply List.ext_getElem?
  intro j
  rw [List.getElem?_set]
  by_cases hjk : k = j
  · subst hjk
    rw [if_pos rfl, ia_w_get hk, if_pos (by simpa [ia_w] using hk), va_up_self]
  · rw [if_neg hjk]
    by_cases hj : j < n
    · rw [ia_w_get hj, ia_w_get hj, va_up_ne _ _ (fun q => hjk q.symm)]
    · rw [ia_w_no hj, ia_w_no hj]
/-- the number of a cell, or of a constant of the launch -/
def ia_okv (n : Nat) (v : Value) : Bool := match v with
  | .ref a => decide (a < n) || decide (1000000 ≤ a)
  | _ => true
def ia_oke (n : Nat) (e : va_E) : Bool := match e with
  | .inr (_, fs) => fs.all (ia_okv n)
  | .inl (_, k, .inr (.inr (.inr (.inr f)))) => (List.range k).all (fun j => match f j with
    | none => true
    | some a => decide (a < n) || decide (1000000 ≤ a))
  | _ => true
/-- two numberings that agree on the first n cells and on the constants -/
def ia_ag (n : Nat) (ad ad' : Nat → Nat) : Prop := ∀ a, a < n ∨ 1000000 ≤ a → ad' a = ad a
theorem ia_ag.rf {n : Nat} {ad : Nat → Nat} : ia_ag n ad ad := fun _ _ => rfl
theorem ia_ag.tr {n n' : Nat} {a b c : Nat → Nat} (hn : n ≤ n') (h : ia_ag n a b) (h' : ia_ag n' b c) : ia_ag n a c := fun q hq => (h' q (hq.imp (fun z => Nat.lt_of_lt_of_le z hn) id)).trans (h q hq)
theorem ia_ag.v {n : Nat} {ad ad' : Nat → Nat} (h : ia_ag n ad ad') {v : Value} (hv : ia_okv n v = true) : ia_v ad' v = ia_v ad v := by
  cases v with
  | ref a => simp only [ia_okv, Bool.or_eq_true, decide_eq_true_eq] at hv; simp only [ia_v]; rw [h a hv]
  | _ => rfl
theorem ia_ag.vs {n : Nat} {ad ad' : Nat → Nat} (h : ia_ag n ad ad') {vs : List Value} (hv : vs.all (ia_okv n) = true) : vs.map (ia_v ad') = vs.map (ia_v ad) := by
  apply List.map_congr_left
  intro v hm
  exact h.v (List.all_eq_true.mp hv v hm)
theorem ia_ag.e {n : Nat} {cy ad ad' : Nat → Nat} (h : ia_ag n ad ad') {e : va_E} (hv : ia_oke n e = true) : ia_e cy ad' e = ia_e cy ad e := by
  match e, hv with
  | .inr (c, fs), hv => exact congrArg (fun z => Sum.inr (c, z)) (h.vs hv)
  | .inl (t, k, .inr (.inr (.inr (.inr f)))), hv =>
    have hq : (fun j => if j < k then (f j).map ad' else none) = (fun j => if j < k then (f j).map ad else none) := by
      funext j
      by_cases hj : j < k
      · rw [if_pos hj, if_pos hj]
        have h1 := List.all_eq_true.mp hv j (List.mem_range.mpr hj)
        cases hf : f j with
        | none => rfl
        | some a =>
          rw [hf] at h1
          simp only [Bool.or_eq_true, decide_eq_true_eq] at h1
          simp only [Option.map_some]
          rw [h a h1]
      · rw [if_neg hj, if_neg hj]
    show (Sum.inl (cy t, k, .inr (.inr (.inr (.inr _)))) : va_E) = Sum.inl (cy t, k, .inr (.inr (.inr (.inr _))))
    rw [hq]
  | .inl (t, k, .inl f), hv => rfl
  | .inl (t, k, .inr (.inl f)), hv => rfl
  | .inl (t, k, .inr (.inr (.inl f))), hv => rfl
  | .inl (t, k, .inr (.inr (.inr (.inl f)))), hv => rfl
def ia_okh (h : Nat → va_E) (n : Nat) : Bool := (List.range n).all (fun k => ia_oke n (h k))
theorem ia_ag.w {n : Nat} {cy ad ad' : Nat → Nat} {h0 : Nat → va_E} (h : ia_ag n ad ad') (hv : ia_okh h0 n = true) : ia_w cy ad' h0 n = ia_w cy ad h0 n := by
  apply List.map_congr_left
  intro k hk
  rw [h.e (List.all_eq_true.mp hv k hk), h k (Or.inl (List.mem_range.mp hk))]
/-- a new cell -/
theorem ia_w_push {n a : Nat} {cy ad : Nat → Nat} {h : Nat → va_E} {e : va_E} (hv : ia_okh h n = true) (hn : n < 1000000) (he : ∀ ad', ia_e cy ad' e = ia_e cy ad e) :
    ia_w cy ad h n ++ [(a, ia_e cy ad e)] = ia_w cy (va_up ad n a) (va_up h n e) (n + 1) := by
  have hag : ia_ag n ad (va_up ad n a) := fun q hq => va_up_ne _ _ (by omega)
  rw [← hag.w (cy := cy) hv]
  unfold ia_w
  rw [List.range_succ, List.map_append]
  congr 1
  · apply List.map_congr_left
    intro k hk
    rw [va_up_ne h _ (Nat.ne_of_lt (List.mem_range.mp hk))]
  · simp only [List.map_cons, List.map_nil, va_up_self, he]
/-! the instructions -/
/-- those that change the stack alone, and go on behind themselves -/
def ia_num (i : Instr) (len : Nat) (st : List Value) : Option (List Value) := match i, len, st with
  | .iconst k, 1, st => some (.int (Int32.ofInt k) :: st)
  | .bipush k, 2, st => some (.int (Int8.ofInt k).toInt32 :: st)
  | .sipush k, 3, st => some (.int (Int16.ofInt k).toInt32 :: st)
  | .lconst k, 1, st => some (.long (Int64.ofNat k.val) :: st)
  | .aconst_null, 1, st => some (.null :: st)
  | .iadd, 1, .int y :: .int x :: st => some (.int (x + y) :: st)
  | .isub, 1, .int y :: .int x :: st => some (.int (x - y) :: st)
  | .imul, 1, .int y :: .int x :: st => some (.int (x * y) :: st)
  | .idiv, 1, .int y :: .int x :: st => if y = 0 then none else some (.int (x / y) :: st)
  | .irem, 1, .int y :: .int x :: st => if y = 0 then none else some (.int (x - x / y * y) :: st)
  | .ineg, 1, .int x :: st => some (.int (-x) :: st)
  | .iand, 1, .int y :: .int x :: st => some (.int (x &&& y) :: st)
  | .ior, 1, .int y :: .int x :: st => some (.int (x ||| y) :: st)
  | .ishl, 1, .int y :: .int x :: st => some (.int (x <<< (y &&& 31)) :: st)
  | .ishr, 1, .int y :: .int x :: st => some (.int (x >>> (y &&& 31)) :: st)
  | .iushr, 1, .int y :: .int x :: st => some (.int (x.toUInt32 >>> (y.toUInt32 &&& Int32.toUInt32 31)).toInt32 :: st)
  | .ladd, 1, .long y :: .long x :: st => some (.long (x + y) :: st)
  | .lsub, 1, .long y :: .long x :: st => some (.long (x - y) :: st)
  | .lmul, 1, .long y :: .long x :: st => some (.long (x * y) :: st)
  | .ldiv, 1, .long y :: .long x :: st => if y = 0 then none else some (.long (x / y) :: st)
  | .lrem, 1, .long y :: .long x :: st => if y = 0 then none else some (.long (x - x / y * y) :: st)
  | .land, 1, .long y :: .long x :: st => some (.long (x &&& y) :: st)
  | .lor, 1, .long y :: .long x :: st => some (.long (x ||| y) :: st)
  | .lshl, 1, .int y :: .long x :: st => some (.long (x <<< (y.toInt64 &&& 63)) :: st)
  | .lushr, 1, .int y :: .long x :: st => some (.long (x.toUInt64 >>> (y.toInt64.toUInt64 &&& Int64.toUInt64 63)).toInt64 :: st)
  | .lcmp, 1, .long y :: .long x :: st => some (.int (lg_cmp x y) :: st)
  | .i2l, 1, .int x :: st => some (.long x.toInt64 :: st)
  | .l2i, 1, .long x :: st => some (.int x.toInt32 :: st)
  | .i2b, 1, .int x :: st => some (.int x.toInt8.toInt32 :: st)
  | .i2c, 1, .int x :: st => some (.int (x.toUInt32 % 65536).toInt32 :: st)
  | .dup, 1, v :: st => if v.category = 1 then some (v :: v :: st) else none
  | .pop, 1, v :: st => if v.category = 1 then some st else none
  | .dup2, 1, v :: w :: st => if v.category = 1 ∧ w.category = 1 then some (v :: w :: v :: w :: st) else none
  | _, _, _ => none
def ia_get (lv : List (Nat × Value)) (i : Nat) : Option Value := (lv.find? (fun q => q.1 == i)).map (fun q => q.2)
def ia_set1 (lv : List (Nat × Value)) (i : Nat) (v : Value) : List (Nat × Value) := (i, v) :: lv.filter (fun q => !(q.1 == i) && !(q.1 + 1 == i && q.2.category == 2))
def ia_set2 (lv : List (Nat × Value)) (i : Nat) (v : Value) : List (Nat × Value) := (i, v) :: lv.filter (fun q => !(q.1 == i) && (!(q.1 == i + 1) && !(q.1 + 1 == i && q.2.category == 2)))
def ia_ldi (lv : List (Nat × Value)) (k : Nat) (st : List Value) : Option (List (Nat × Value) × List Value) := match ia_get lv k with
  | some (.int x) => some (lv, .int x :: st)
  | _ => none
def ia_ldl (lv : List (Nat × Value)) (k : Nat) (st : List Value) : Option (List (Nat × Value) × List Value) := match ia_get lv k with
  | some (.long x) => some (lv, .long x :: st)
  | _ => none
def ia_lda (lv : List (Nat × Value)) (k : Nat) (st : List Value) : Option (List (Nat × Value) × List Value) := match ia_get lv k with
  | some (.ref x) => some (lv, .ref x :: st)
  | some .null => some (lv, .null :: st)
  | _ => none
/-- those that read or write the locals -/
def ia_loc (i : Instr) (len nL : Nat) (lv : List (Nat × Value)) (st : List Value) : Option (List (Nat × Value) × List Value) := match i, len, st with
  | .iload k, 2, st => ia_ldi lv k st
  | .iload_n k, 1, st => ia_ldi lv k.val st
  | .lload k, 2, st => ia_ldl lv k st
  | .lload_n k, 1, st => ia_ldl lv k.val st
  | .aload k, 2, st => ia_lda lv k st
  | .aload_n k, 1, st => ia_lda lv k.val st
  | .istore k, 2, .int x :: st => if k < nL then some (ia_set1 lv k (.int x), st) else none
  | .istore_n k, 1, .int x :: st => if k.val < nL then some (ia_set1 lv k.val (.int x), st) else none
  | .lstore k, 2, .long x :: st => if k + 1 < nL then some (ia_set2 lv k (.long x), st) else none
  | .lstore_n k, 1, .long x :: st => if k.val + 1 < nL then some (ia_set2 lv k.val (.long x), st) else none
  | .astore k, 2, .ref x :: st => if k < nL then some (ia_set1 lv k (.ref x), st) else none
  | .astore_n k, 1, .ref x :: st => if k.val < nL then some (ia_set1 lv k.val (.ref x), st) else none
  | .astore k, 2, .null :: st => if k < nL then some (ia_set1 lv k .null, st) else none
  | .astore_n k, 1, .null :: st => if k.val < nL then some (ia_set1 lv k.val .null, st) else none
  | .iinc k n, 3, st => match ia_get lv k with
    | some (.int x) => if k < nL then some (ia_set1 lv k (.int (x + Int32.ofInt n)), st) else none
    | _ => none
  | .iinc k n, 6, st => match ia_get lv k with
    | some (.int x) => if k < nL then some (ia_set1 lv k (.int (x + Int32.ofInt n)), st) else none
    | _ => none
  | _, _, _ => none
/-- where a branch goes -/
def ia_tg (pc : Nat) (off : Int) : Nat := ((pc : Int) + off).toNat
def ia_tgo (pc : Nat) (off : Int) (st : List Value) : Option (Nat × List Value) := if 0 ≤ (pc : Int) + off then some (ia_tg pc off, st) else none
def ia_cj (pc : Nat) (off : Int) (b : Bool) (st : List Value) : Option (Nat × List Value) := if 0 ≤ (pc : Int) + off then (match b with
  | true => some (ia_tg pc off, st)
  | false => some (pc + 3, st)) else none
def ia_br (i : Instr) (len pc : Nat) (st : List Value) : Option (Nat × List Value) := match i, len, st with
  | .ifCond .eq off, 3, .int x :: st => ia_cj pc off (decide (x = 0)) st
  | .ifCond .ne off, 3, .int x :: st => ia_cj pc off (decide (¬ x = 0)) st
  | .ifCond .lt off, 3, .int x :: st => ia_cj pc off (decide (x < 0)) st
  | .ifCond .ge off, 3, .int x :: st => ia_cj pc off (decide (0 ≤ x)) st
  | .ifCond .gt off, 3, .int x :: st => ia_cj pc off (decide (0 < x)) st
  | .ifCond .le off, 3, .int x :: st => ia_cj pc off (decide (x ≤ 0)) st
  | .if_icmp .eq off, 3, .int y :: .int x :: st => ia_cj pc off (decide (x = y)) st
  | .if_icmp .ne off, 3, .int y :: .int x :: st => ia_cj pc off (decide (¬ x = y)) st
  | .if_icmp .lt off, 3, .int y :: .int x :: st => ia_cj pc off (decide (x < y)) st
  | .if_icmp .ge off, 3, .int y :: .int x :: st => ia_cj pc off (decide (y ≤ x)) st
  | .if_icmp .gt off, 3, .int y :: .int x :: st => ia_cj pc off (decide (y < x)) st
  | .if_icmp .le off, 3, .int y :: .int x :: st => ia_cj pc off (decide (x ≤ y)) st
  | .goto off, 3, st => ia_tgo pc off st
  | .ifnull off, 3, .null :: st => ia_tgo pc off st
  | .ifnull _, 3, .ref _ :: st => some (pc + 3, st)
  | .ifnonnull off, 3, .ref _ :: st => ia_tgo pc off st
  | .ifnonnull _, 3, .null :: st => some (pc + 3, st)
  | .tableswitch dflt lo hi offs, _, .int x :: st => if x.toInt < lo ∨ hi < x.toInt then ia_tgo pc dflt st else match offs[(x.toInt - lo).toNat]? with
    | some off => ia_tgo pc off st
    | none => none
  | _, _, _ => none
/-! the tables of a program: fields, methods, classes to make, constants, statics, types of fields, the launch's constants, the methods, names of classes, the classes -/
abbrev ia_T : Type := (Nat → Nat → Option (Nat × Nat)) × (Nat → Nat → Option (Nat × Nat)) × (Nat → Nat → Option Nat) × (Nat → Nat → Option Value) × (Nat → Nat → Option Value) × (Nat → Nat → FieldType) × (Nat → va_E) × (Nat → Option (Nat × MethodName × ByteArray × Nat × Option FieldType × Nat)) × (Nat → String) × List vw_C
/-- (the class that asks, the pool's number): (the object's class, the slot) -/
def ia_tF (P : ia_T) : Nat → Nat → Option (Nat × Nat) := P.1
/-- (the class that asks, the pool's number): (the method, the kind of the call) -/
def ia_tM (P : ia_T) : Nat → Nat → Option (Nat × Nat) := P.2.1
def ia_tC (P : ia_T) : Nat → Nat → Option Nat := P.2.2.1
def ia_tK (P : ia_T) : Nat → Nat → Option Value := P.2.2.2.1
def ia_tS (P : ia_T) : Nat → Nat → Option Value := P.2.2.2.2.1
def ia_ty (P : ia_T) : Nat → Nat → FieldType := P.2.2.2.2.2.1
def ia_hc (P : ia_T) : Nat → va_E := P.2.2.2.2.2.2.1
/-- a method: its class, name, code, locals, type, parameters -/
def ia_mt (P : ia_T) : Nat → Option (Nat × MethodName × ByteArray × Nat × Option FieldType × Nat) := P.2.2.2.2.2.2.2.1
def ia_rN (P : ia_T) : Nat → String := P.2.2.2.2.2.2.2.2.1
def ia_cl (P : ia_T) : List vw_C := P.2.2.2.2.2.2.2.2.2
def ia_fin (P : ia_T) (ci k : Nat) : Bool := match (ia_cl P)[ci]? with
  | some q => (q.2.1 k).2.2.2
  | none => true
def ia_fit (ty : FieldType) (v : Value) : Bool := match ty, v with
  | .int, .int _ => true
  | .long, .long _ => true
  | .boolean, .int b => b == 0 || b == 1
  | .object _, .null => true
  | .object _, .ref _ => true
  | .array _, .null => true
  | .array _, .ref _ => true
  | _, _ => false
def ia_in (i : Int32) (n : Nat) : Bool := decide (0 ≤ i.toInt ∧ i.toInt < (n : Int))
/-- a cell, or a constant of the launch -/
def ia_at (P : ia_T) (h : Nat → va_E) (n a : Nat) : Option va_E := if a < n then some (h a) else if 1000000 ≤ a then some (ia_hc P a) else none
def ia_ofo (r : Option Nat) : Value := match r with
  | none => .null
  | some a => .ref a
/-- reading instructions -/
def ia_rd (P : ia_T) (own : Nat) (i : Instr) (len : Nat) (st : List Value) (h : Nat → va_E) (n : Nat) : Option (List Value) := match i, len, st with
  | .getfield x, 3, .ref a :: st => match ia_tF P own x, ia_at P h n a with
    | some (ci, k), some (.inr (c, fs)) => if c = ci then (match fs[k]? with
      | some v => some (v :: st)
      | none => none) else none
    | _, _ => none
  | .iaload, 1, .int j :: .ref a :: st => match ia_at P h n a with
    | some (.inl (0, N, .inl f)) => if ia_in j N = true then some (.int (f j.toNatClampNeg) :: st) else none
    | _ => none
  | .baload, 1, .int j :: .ref a :: st => match ia_at P h n a with
    | some (.inl (1, N, .inl f)) => if ia_in j N = true then some (.int (f j.toNatClampNeg) :: st) else none
    | some (.inl (2, N, .inl f)) => if ia_in j N = true then some (.int (f j.toNatClampNeg) :: st) else none
    | _ => none
  | .laload, 1, .int j :: .ref a :: st => match ia_at P h n a with
    | some (.inl (3, N, .inr (.inl f))) => if ia_in j N = true then some (.long (f j.toNatClampNeg) :: st) else none
    | _ => none
  | .aaload, 1, .int j :: .ref a :: st => match ia_at P h n a with
    | some (.inl (4, N, .inr (.inr (.inr (.inr f))))) => if ia_in j N = true then some (ia_ofo (f j.toNatClampNeg) :: st) else none
    | _ => none
  | .arraylength, 1, .ref a :: st => match ia_at P h n a with
    | some (.inl (t, N, _)) => if t < 5 then some (.int (Int32.ofNat N) :: st) else none
    | _ => none
  | .checkcast x, 3, .ref a :: st => if ia_tC P own x = some 950 ∧ a < n then (match h a with
    | .inl (0, _, .inl _) => some (.ref a :: st)
    | _ => none) else none
  | .getstatic x, 3, st => match ia_tS P own x with
    | some v => some (v :: st)
    | none => none
  | .ldc x, 2, st => match ia_tK P own x with
    | some (.int v) => some (.int v :: st)
    | some (.ref a) => some (.ref a :: st)
    | _ => none
  | .ldc_w x, 3, st => match ia_tK P own x with
    | some (.int v) => some (.int v :: st)
    | some (.ref a) => some (.ref a :: st)
    | _ => none
  | .ldc2_w x, 3, st => match ia_tK P own x with
    | some (.long v) => some (.long v :: st)
    | _ => none
  | _, _, _ => none
/-- writing instructions -/
def ia_wr (P : ia_T) (own : Nat) (ini : Bool) (i : Instr) (len : Nat) (st : List Value) (h : Nat → va_E) (n : Nat) : Option (List Value × (Nat → va_E)) := match i, len, st with
  | .putfield x, 3, v :: .ref a :: st => match ia_tF P own x, h a with
    | some (ci, k), .inr (c, fs) => if a < n ∧ c = ci ∧ k < fs.length ∧ ia_fit (ia_ty P ci k) v = true ∧ (ia_fin P ci k = false ∨ (ini = true ∧ ci = own)) then some (st, va_up h a (.inr (c, fs.set k v))) else none
    | _, _ => none
  | .iastore, 1, .int x :: .int j :: .ref a :: st => match h a with
    | .inl (0, N, .inl f) => if a < n ∧ ia_in j N = true then some (st, va_up h a (.inl (0, N, .inl (upd f j.toNatClampNeg x)))) else none
    | _ => none
  | .bastore, 1, .int x :: .int j :: .ref a :: st => match h a with
    | .inl (1, N, .inl f) => if a < n ∧ ia_in j N = true then some (st, va_up h a (.inl (1, N, .inl (upd f j.toNatClampNeg (vp_nar .byte x))))) else none
    | .inl (2, N, .inl f) => if a < n ∧ ia_in j N = true then some (st, va_up h a (.inl (2, N, .inl (upd f j.toNatClampNeg (vp_nar .boolean x))))) else none
    | _ => none
  | .lastore, 1, .long x :: .int j :: .ref a :: st => match h a with
    | .inl (3, N, .inr (.inl f)) => if a < n ∧ ia_in j N = true then some (st, va_up h a (.inl (3, N, .inr (.inl (vp_updL f j.toNatClampNeg x))))) else none
    | _ => none
  | .aastore, 1, .ref b :: .int j :: .ref a :: st => match h a, h b with
    | .inl (4, N, .inr (.inr (.inr (.inr f)))), .inl (0, _, .inl _) => if a < n ∧ b < n ∧ ia_in j N = true then some (st, va_up h a (.inl (4, N, .inr (.inr (.inr (.inr (va_up f j.toNatClampNeg (some b)))))))) else none
    | _, _ => none
  | _, _, _ => none
/-- the kind of an instruction: 0 stack, 1 locals, 2 branch, 3 read, 4 write, 5 making, 6 call, 7 return -/
def ia_kind (i : Instr) : Nat := match i with
  | .iload _ | .iload_n _ | .lload _ | .lload_n _ | .aload _ | .aload_n _ | .istore _ | .istore_n _ | .lstore _ | .lstore_n _ | .astore _ | .astore_n _ | .iinc _ _ => 1
  | .ifCond _ _ | .if_icmp _ _ | .goto _ | .ifnull _ | .ifnonnull _ | .tableswitch _ _ _ _ => 2
  | .checkcast _ | .getfield _ | .iaload | .baload | .laload | .aaload | .arraylength | .getstatic _ | .ldc _ | .ldc_w _ | .ldc2_w _ => 3
  | .putfield _ | .iastore | .bastore | .lastore | .aastore => 4
  | .new _ | .newarray _ | .anewarray _ => 5
  | .invokestatic _ | .invokevirtual _ | .invokespecial _ => 6
  | .ireturn | .lreturn | .areturn | .return_ => 7
  | _ => 0
/-- making instructions: the stack, the cell, its slots; n is the new cell's number -/
def ia_mk (P : ia_T) (own : Nat) (i : Instr) (len : Nat) (st : List Value) (n : Nat) : Option (List Value × va_E × Nat) := match i, len, st with
  | .new x, 3, st => match ia_tC P own x with
    | some ci => match (ia_cl P)[ci]? with
      | some q => some (.ref n :: st, .inr (ci, (List.range q.2.2).map (fun k => defaultValue (ia_ty P ci k))), q.2.2)
      | none => none
    | none => none
  | .newarray .int, 2, .int j :: st => if 0 ≤ j.toInt ∧ j.toInt ≤ 100000 then some (.ref n :: st, .inl (0, j.toNatClampNeg, .inl (fun _ => 0)), j.toNatClampNeg) else none
  | .newarray .byte, 2, .int j :: st => if 0 ≤ j.toInt ∧ j.toInt ≤ 100000 then some (.ref n :: st, .inl (1, j.toNatClampNeg, .inl (fun _ => 0)), j.toNatClampNeg) else none
  | .newarray .boolean, 2, .int j :: st => if 0 ≤ j.toInt ∧ j.toInt ≤ 100000 then some (.ref n :: st, .inl (2, j.toNatClampNeg, .inl (fun _ => 0)), j.toNatClampNeg) else none
  | .newarray .long, 2, .int j :: st => if 0 ≤ j.toInt ∧ j.toInt ≤ 100000 then some (.ref n :: st, .inl (3, j.toNatClampNeg, .inr (.inl (fun _ => 0))), j.toNatClampNeg) else none
  | .anewarray x, 3, .int j :: st => if ia_tC P own x = some 950 ∧ 0 ≤ j.toInt ∧ j.toInt ≤ 100000 then some (.ref n :: st, .inl (4, j.toNatClampNeg, .inr (.inr (.inr (.inr (fun _ => none))))), j.toNatClampNeg) else none
  | _, _, _ => none
/-- what a return gives back -/
def ia_ret (i : Instr) (len : Nat) (ret : Option FieldType) (st : List Value) : Option (Option Value) := match i, len, ret, st with
  | .ireturn, 1, some .int, [.int v] => some (some (.int v))
  | .ireturn, 1, some .boolean, [.int v] => if v = 0 ∨ v = 1 then some (some (.int v)) else none
  | .ireturn, 1, some .byte, [.int v] => if v = 0 ∨ v = 1 then some (some (.int v)) else none
  | .ireturn, 1, some .char, [.int v] => if 0 ≤ v.toInt ∧ v.toInt ≤ 65535 then some (some (.int v)) else none
  | .lreturn, 1, some .long, [.long v] => some (some (.long v))
  | .areturn, 1, some (.array _), [.ref v] => some (some (.ref v))
  | .areturn, 1, some (.array _), [.null] => some (some .null)
  | .areturn, 1, some (.object _), [.ref v] => some (some (.ref v))
  | .return_, 1, none, [] => some none
  | _, _, _, _ => none
/-- the cells, how many; how many were made so far, and their slots -/
abbrev ia_H : Type := (Nat → va_E) × Nat × Nat × Nat
/-- a call: the method, its kind, the arguments, the rest of the stack -/
def ia_inv (P : ia_T) (own : Nat) (i : Instr) (len : Nat) (st : List Value) (h : Nat → va_E) (n : Nat) : Option (Nat × Nat × List Value × List Value) := match i, len with
  | .invokestatic x, 3 => match ia_tM P own x with
    | some (k, kd) => match ia_mt P k with
      | some (_, _, _, _, _, np) => if (kd = 0 ∨ kd = 3) ∧ np ≤ st.length then some (k, kd, (st.take np).reverse, st.drop np) else none
      | none => none
    | none => none
  | .invokevirtual x, 3 => match ia_tM P own x with
    | some (k, kd) => match ia_mt P k with
      | some (ck, _, _, _, _, np) => if kd = 1 ∧ np ≤ st.length then (match st.drop np with
        | .ref b :: rest => match ia_at P h n b with
          | some (.inr (ci, _)) => if ci = ck then some (k, kd, .ref b :: (st.take np).reverse, rest) else none
          | _ => none
        | _ => none) else none
      | none => none
    | none => none
  | .invokespecial x, 3 => match ia_tM P own x with
    | some (k, kd) => match ia_mt P k with
      | some (_, _, _, _, _, np) => if (kd = 2 ∨ kd = 4) ∧ np ≤ st.length then (match st.drop np with
        | .ref b :: rest => some (k, kd, .ref b :: (st.take np).reverse, rest)
        | _ => none) else none
      | none => none
    | none => none
  | _, _ => none
/-- calls that are done at once: Object's constructor (kind 6), System.arraycopy of ints (7), Math's max, min, abs of ints (10, 11, 12), max, min of longs (13, 14) -/
def ia_prim (P : ia_T) (own : Nat) (i : Instr) (len : Nat) (st : List Value) (h : Nat → va_E) (n : Nat) : Option (List Value × (Nat → va_E)) := match i, len with
  | .invokespecial x, 3 => match ia_tM P own x, st with
    | some (_, 6), .ref _ :: st => if (st.map fun v => v.category).sum ≤ 8 then some (st, h) else none
    | _, _ => none
  | .invokestatic x, 3 => match ia_tM P own x, st with
    | some (_, 7), .int k :: .int dp :: .ref b :: .int sp :: .ref a :: st => if (st.map fun v => v.category).sum ≤ 8 ∧ a < n ∧ b < n then (match h a, h b with
      | .inl (0, na, .inl f), .inl (0, nb, .inl g) => if 0 ≤ sp.toInt ∧ 0 ≤ dp.toInt ∧ 0 ≤ k.toInt ∧ sp.toInt + k.toInt ≤ (na : Int) ∧ dp.toInt + k.toInt ≤ (nb : Int) then some (st, va_up h b (.inl (0, nb, .inl (va_cpy f g sp.toNatClampNeg dp.toNatClampNeg k.toNatClampNeg)))) else none
      | _, _ => none) else none
    | some (_, 10), .int y :: .int x :: st => if (st.map fun v => v.category).sum ≤ 8 then some (.int (if x < y then y else x) :: st, h) else none
    | some (_, 11), .int y :: .int x :: st => if (st.map fun v => v.category).sum ≤ 8 then some (.int (if y < x then y else x) :: st, h) else none
    | some (_, 12), .int x :: st => if (st.map fun v => v.category).sum ≤ 8 then some (.int (if 0 ≤ x then x else 0 - x) :: st, h) else none
    | some (_, 13), .long y :: .long x :: st => if (st.map fun v => v.category).sum ≤ 8 then some (.long (if y < x then x else y) :: st, h) else none
    | some (_, 14), .long y :: .long x :: st => if (st.map fun v => v.category).sum ≤ 8 then some (.long (if y < x then y else x) :: st, h) else none
    | _, _ => none
  | _, _ => none
/-- a clone of a row of ints (method 9002) -/
def ia_cln (P : ia_T) (own : Nat) (i : Instr) (len : Nat) (st : List Value) (h : Nat → va_E) (n : Nat) : Option (List Value × va_E × Nat) := match i, len, st with
  | .invokevirtual x, 3, .ref a :: st => if ia_tM P own x = some (9002, 8) ∧ (st.map fun v => v.category).sum ≤ 8 ∧ a < n then (match h a with
    | .inl (0, na, .inl f) => some (.ref n :: st, .inl (0, na, .inl f), na)
    | _ => none) else none
  | _, _, _ => none
def ia_oks (n : Nat) (lv : List (Nat × Value)) (st : List Value) : Bool := lv.all (fun q => ia_okv n q.2) && st.all (ia_okv n)
/-- a method's body from an instruction on, f instructions at most; ex: calls that are done otherwise (at such a place, with such a stack) -/
def ia_lp (P : ia_T) (cal : Nat → List Value → ia_H → Option (Option Value × ia_H)) (ex : Nat → List Value → ia_H → Option (List Value × ia_H)) (own : Nat) (ini : Bool) (cc : ByteArray) (nL : Nat) (ret : Option FieldType) : Nat → Nat → List (Nat × Value) → List Value → ia_H → Option (Option Value × ia_H)
  | 0, _, _, _, _ => none
  | f + 1, pc, lv, st, hp => match decode cc pc with
    | .error _ => none
    | .ok (i, len) => match ia_kind i with
      | 0 => match ia_num i len st with
        | some st' => ia_lp P cal ex own ini cc nL ret f (pc + len) lv st' hp
        | none => none
      | 1 => match ia_loc i len nL lv st with
        | some (lv', st') => ia_lp P cal ex own ini cc nL ret f (pc + len) lv' st' hp
        | none => none
      | 2 => match ia_br i len pc st with
        | some (pc', st') => ia_lp P cal ex own ini cc nL ret f pc' lv st' hp
        | none => none
      | 3 => match ia_rd P own i len st hp.1 hp.2.1 with
        | some st' => ia_lp P cal ex own ini cc nL ret f (pc + len) lv st' hp
        | none => none
      | 4 => match ia_wr P own ini i len st hp.1 hp.2.1 with
        | some (st', h') => ia_lp P cal ex own ini cc nL ret f (pc + len) lv st' (h', hp.2)
        | none => none
      | 5 => match ia_mk P own i len st hp.2.1 with
        | some (st', e, k) => if ia_okh hp.1 hp.2.1 = true ∧ ia_oks hp.2.1 lv st'.tail = true ∧ hp.2.1 < 1000000 then ia_lp P cal ex own ini cc nL ret f (pc + len) lv st' (va_up hp.1 hp.2.1 e, hp.2.1 + 1, hp.2.2.1 + 1, hp.2.2.2 + k) else none
        | none => none
      | 6 => match ex pc st hp with
       | some (st', hp') => ia_lp P cal ex own ini cc nL ret f (pc + 3) lv st' hp'
       | none => match ia_prim P own i len st hp.1 hp.2.1 with
        | some (st', h') => ia_lp P cal ex own ini cc nL ret f (pc + 3) lv st' (h', hp.2)
        | none => match ia_inv P own i len st hp.1 hp.2.1 with
          | some (k, _, as, rest) => if ia_oks hp.2.1 lv rest = true ∧ (rest.map fun v => v.category).sum ≤ 8 then (match cal k as hp with
            | some (v, hp') => ia_lp P cal ex own ini cc nL ret f (pc + 3) lv (v.toList ++ rest) hp'
            | none => none) else none
          | none => match ia_cln P own i len st hp.1 hp.2.1 with
            | some (st', e, k) => if ia_okh hp.1 hp.2.1 = true ∧ ia_oks hp.2.1 lv st'.tail = true ∧ hp.2.1 < 1000000 then ia_lp P cal ex own ini cc nL ret f (pc + 3) lv st' (va_up hp.1 hp.2.1 e, hp.2.1 + 1, hp.2.2.1 + 1, hp.2.2.2 + k) else none
            | none => none
      | _ => match ia_ret i len ret st with
        | some v => some (v, hp)
        | none => none
/-- no call but those of the tables -/
def ia_nx : Nat → List Value → ia_H → Option (List Value × ia_H) := fun _ _ _ => none
/-- a method, d calls deep at most -/
def ia_call (P : ia_T) (F : Nat) : Nat → Nat → List Value → ia_H → Option (Option Value × ia_H)
  | 0, _, _, _ => none
  | d + 1, k, as, hp => match ia_mt P k with
    | none => none
    | some (own, y, cc, nL, ret, _) => if (lg_sl as).length ≤ nL then ia_lp P (ia_call P F d) ia_nx own (y.name == "<init>") cc nL ret F 0 (lv_args 0 as) [] hp else none
