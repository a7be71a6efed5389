section IB
variable {p : Program} {l : Launch} {e : Env} {R : Room} {s : State} {m : MethodId} {args : Array Value} {below : List Frame} {meth : Method} {c : Code} {H : Heap} {locs : List Loc} {cells slots : Nat} {Q : State → Prop} {cc : ByteArray}
theorem ia_num_ok {ad : Nat → Nat} {i : Instr} {len pc : Nat} {st st' : List Value} {ls : Array Slot} (hx : p.tables.exec = Jvm.exec) (hb : c.code = cc) (hd : decode cc pc = .ok (i, len)) (hs : ia_num i len st = some st')
    (k : W p l e R s m args below meth c H locs cells slots Q (F0 m (pc + len) ls (st'.map (ia_v ad)))) : W p l e R s m args below meth c H locs cells slots Q (F0 m pc ls (st.map (ia_v ad))) := by
  unfold ia_num at hs
  split at hs
  · cases hs; exact lv_iconst hx hb hd rfl k
  · cases hs; exact lv_bipush hx hb hd rfl k
  · cases hs; exact lv_sipush hx hb hd rfl k
  · cases hs; exact lv_lconst hx hb hd rfl k
  · cases hs; exact lv_null hx hb hd k
  · cases hs; exact lv_iadd hx hb hd k
  · cases hs; exact lv_isub hx hb hd k
  · cases hs; exact lv_imul hx hb hd k
  · split at hs
    · cases hs
    · next hne => cases hs; exact lv_idiv hx hb hd hne k
  · split at hs
    · cases hs
    · next hne => cases hs; exact lv_irem hx hb hd hne k
  · cases hs; exact lv_ineg hx hb hd k
  · cases hs; exact lv_iand hx hb hd k
  · cases hs; exact lv_ior hx hb hd k
  · cases hs; exact lv_ishl hx hb hd k
  · cases hs; exact lv_ishr hx hb hd k
  · cases hs; exact lv_iushr hx hb hd rfl k
  · cases hs; exact lv_ladd hx hb hd k
  · cases hs; exact lv_lsub hx hb hd k
  · cases hs; exact lv_lmul hx hb hd k
  · split at hs
    · cases hs
    · next hne => cases hs; exact lv_ldiv hx hb hd hne k
  · split at hs
    · cases hs
    · next hne => cases hs; exact lv_lrem hx hb hd hne k
  · cases hs; exact lv_land hx hb hd k
  · cases hs; exact lv_lor hx hb hd k
  · cases hs; exact lv_lshl hx hb hd rfl k
  · cases hs; exact lv_lushr hx hb hd rfl k
  · cases hs; exact W.lcmp hx hb hd k
  · cases hs; exact lv_i2l hx hb hd rfl k
  · cases hs; exact lv_l2i hx hb hd rfl k
  · cases hs; exact lv_i2b hx hb hd rfl k
  · cases hs; exact lv_i2c hx hb hd rfl k
  · split at hs
    · next hc => cases hs; exact lv_dup hx hb hd ((ia_v_cat _ _).trans hc) k
    · cases hs
  · split at hs
    · next hc => cases hs; exact lv_pop hx hb hd ((ia_v_cat _ _).trans hc) k
    · cases hs
  · split at hs
    · next hc => cases hs; exact lv_dup2_11 hx hb hd ((ia_v_cat _ _).trans hc.1) ((ia_v_cat _ _).trans hc.2) k
    · cases hs
  · cases hs
/-- the locals, turned -/
def ia_lv (ad : Nat → Nat) (lv : List (Nat × Value)) : List (Nat × Value) := lv.map (fun q => (q.1, ia_v ad q.2))
theorem ia_lv_f (ad : Nat → Nat) (lv : List (Nat × Value)) (g : Nat → Nat → Bool) : (ia_lv ad lv).filter (fun q => g q.1 q.2.category) = ia_lv ad (lv.filter (fun q => g q.1 q.2.category)) := by
  induction lv with
  | nil => rfl
  | cons q lv ih =>
    simp only [ia_lv, List.map_cons, List.filter_cons, ia_v_cat] at ih ⊢
    split <;> simp only [ih, List.map_cons]
theorem ia_lv_s1 (ad : Nat → Nat) (lv : List (Nat × Value)) (i : Nat) (v : Value) : (i, ia_v ad v) :: (ia_lv ad lv).filter (fun q => !(q.1 == i) && !(q.1 + 1 == i && q.2.category == 2)) = ia_lv ad (ia_set1 lv i v) := by
  rw [ia_lv_f ad lv (fun a b => !(a == i) && !(a + 1 == i && b == 2))]; rfl
theorem ia_lv_s2 (ad : Nat → Nat) (lv : List (Nat × Value)) (i : Nat) (v : Value) : (i, ia_v ad v) :: (ia_lv ad lv).filter (fun q => !(q.1 == i) && (!(q.1 == i + 1) && !(q.1 + 1 == i && q.2.category == 2))) = ia_lv ad (ia_set2 lv i v) := by
  rw [ia_lv_f ad lv (fun a b => !(a == i) && (!(a == i + 1) && !(a + 1 == i && b == 2)))]; rfl
theorem ia_get_at {lv : List (Nat × Value)} {i : Nat} {v : Value} (h : ia_get lv i = some v) : (i, v) ∈ lv := by
  unfold ia_get at h
  obtain ⟨q, hq, rfl⟩ := Option.map_eq_some_iff.mp h
  have h1 := List.find?_some hq
  have h2 := List.mem_of_find?_eq_some hq
  obtain ⟨a, b⟩ := q
  simp only [beq_iff_eq] at h1
  subst h1
  exact h2
theorem ia_get_ls {ad : Nat → Nat} {ls : Array Slot} {nL : Nat} {lv : List (Nat × Value)} (hl : lv_has ls nL (ia_lv ad lv)) {i : Nat} {v : Value} (h : ia_get lv i = some v) : ls[i]? = some (.val (ia_v ad v)) :=
  hl.2.2 (i, ia_v ad v) (List.mem_map.mpr ⟨(i, v), ia_get_at h, rfl⟩)
theorem ia_loc_ok {ad : Nat → Nat} {i : Instr} {len pc nL : Nat} {lv lv' : List (Nat × Value)} {st st' : List Value} {ls : Array Slot} (hx : p.tables.exec = Jvm.exec) (hb : c.code = cc) (hd : decode cc pc = .ok (i, len)) (hl : lv_has ls nL (ia_lv ad lv)) (hs : ia_loc i len nL lv st = some (lv', st'))
    (k : ∀ ls' : Array Slot, lv_has ls' nL (ia_lv ad lv') → W p l e R s m args below meth c H locs cells slots Q (F0 m (pc + len) ls' (st'.map (ia_v ad)))) : W p l e R s m args below meth c H locs cells slots Q (F0 m pc ls (st.map (ia_v ad))) := by
  unfold ia_loc at hs
  split at hs
  · unfold ia_ldi at hs; split at hs
    · next hg => cases hs; exact lv_iload hx hb hd (ia_get_ls hl hg) (k ls hl)
    · cases hs
  · unfold ia_ldi at hs; split at hs
    · next hg => cases hs; exact lv_iload_n hx hb hd rfl (ia_get_ls hl hg) (k ls hl)
    · cases hs
  · unfold ia_ldl at hs; split at hs
    · next hg => cases hs; exact lv_lload hx hb hd (ia_get_ls hl hg) (k ls hl)
    · cases hs
  · unfold ia_ldl at hs; split at hs
    · next hg => cases hs; exact lv_lload_n hx hb hd rfl (ia_get_ls hl hg) (k ls hl)
    · cases hs
  · unfold ia_lda at hs; split at hs
    · next hg => cases hs; exact lv_aload hx hb hd (ia_get_ls hl hg) (k ls hl)
    · next hg => cases hs; exact lv_aloadN hx hb hd (ia_get_ls hl hg) (k ls hl)
    · cases hs
  · unfold ia_lda at hs; split at hs
    · next hg => cases hs; exact lv_aload_n hx hb hd rfl (ia_get_ls hl hg) (k ls hl)
    · next hg => cases hs; exact lv_aload_nN hx hb hd rfl (ia_get_ls hl hg) (k ls hl)
    · cases hs
  · split at hs
    · next hn => cases hs; exact lv_istore hx hb hd hl hn (ia_lv_s1 ad lv _ (.int _)) k
    · cases hs
  · split at hs
    · next hn => cases hs; exact lv_istore_n hx hb hd rfl hl hn (ia_lv_s1 ad lv _ (.int _)) k
    · cases hs
  · split at hs
    · next hn => cases hs; exact lv_lstore hx hb hd hl hn (ia_lv_s2 ad lv _ (.long _)) k
    · cases hs
  · split at hs
    · next hn => cases hs; exact lv_lstore_n hx hb hd rfl hl hn (ia_lv_s2 ad lv _ (.long _)) k
    · cases hs
  · split at hs
    · next hn => cases hs; exact lv_astore hx hb hd hl hn (ia_lv_s1 ad lv _ (.ref _)) k
    · cases hs
  · split at hs
    · next hn => cases hs; exact lv_astore_n hx hb hd rfl hl hn (ia_lv_s1 ad lv _ (.ref _)) k
    · cases hs
  · split at hs
    · next hn => cases hs; exact lv_astoreN hx hb hd hl hn (ia_lv_s1 ad lv _ .null) k
    · cases hs
  · split at hs
    · next hn => cases hs; exact lv_astore_nN hx hb hd rfl hl hn (ia_lv_s1 ad lv _ .null) k
    · cases hs
  · split at hs
    · next hg =>
      split at hs
      · next hn =>
        cases hs
        obtain ⟨j, hj⟩ := List.getElem?_of_mem (List.mem_map.mpr ⟨_, ia_get_at hg, rfl⟩ : _ ∈ ia_lv ad lv)
        exact lv_iinc hx hb hd hl hj rfl hn (ia_lv_s1 ad lv _ (.int _)) k
      · cases hs
    · cases hs
  · split at hs
    · next hg =>
      split at hs
      · next hn =>
        cases hs
        obtain ⟨j, hj⟩ := List.getElem?_of_mem (List.mem_map.mpr ⟨_, ia_get_at hg, rfl⟩ : _ ∈ ia_lv ad lv)
        exact lv_iincW hx hb hd hl hj rfl hn (ia_lv_s1 ad lv _ (.int _)) k
      · cases hs
    · cases hs
  · cases hs
theorem ia_tgo_ok {pc pc' : Nat} {off : Int} {st st' : List Value} (h : ia_tgo pc off st = some (pc', st')) : (pc : Int) + off = (pc' : Int) ∧ st' = st := by
  unfold ia_tgo at h
  split at h
  · next h0 => cases h; exact ⟨by unfold ia_tg; omega, rfl⟩
  · cases h
theorem ia_cj_ok {pc pc' : Nat} {off : Int} {b : Bool} {st st' : List Value} (h : ia_cj pc off b st = some (pc', st')) : ∃ tgt : Nat, (pc : Int) + off = (tgt : Int) ∧ st' = st ∧ ((b = true ∧ pc' = tgt) ∨ (b = false ∧ pc' = pc + 3)) := by
  unfold ia_cj at h
  split at h
  · next h0 =>
    refine ⟨ia_tg pc off, by unfold ia_tg; omega, ?_⟩
    cases b <;> cases h
    · exact ⟨rfl, Or.inr ⟨rfl, rfl⟩⟩
    · exact ⟨rfl, Or.inl ⟨rfl, rfl⟩⟩
  · cases h
theorem ia_br_ok {ad : Nat → Nat} {i : Instr} {len pc pc' : Nat} {st st' : List Value} {ls : Array Slot} (hx : p.tables.exec = Jvm.exec) (hb : c.code = cc) (hd : decode cc pc = .ok (i, len)) (hs : ia_br i len pc st = some (pc', st'))
    (k : W p l e R s m args below meth c H locs cells slots Q (F0 m pc' ls (st'.map (ia_v ad)))) : W p l e R s m args below meth c H locs cells slots Q (F0 m pc ls (st.map (ia_v ad))) := by
  unfold ia_br at hs
  split at hs
  · obtain ⟨tgt, ht, rfl, ⟨hq, rfl⟩ | ⟨hq, rfl⟩⟩ := ia_cj_ok hs
    · exact lv_if_eq hx hb hd ht (fun _ => k) (fun q => absurd (of_decide_eq_true hq) q)
    · exact lv_if_eq hx hb hd ht (fun q => absurd q (of_decide_eq_false hq)) (fun _ => k)
  · obtain ⟨tgt, ht, rfl, ⟨hq, rfl⟩ | ⟨hq, rfl⟩⟩ := ia_cj_ok hs
    · exact lv_if_ne hx hb hd ht (fun _ => k) (fun q => absurd q (of_decide_eq_true hq))
    · exact lv_if_ne hx hb hd ht (fun q => absurd q (of_decide_eq_false hq)) (fun _ => k)
  · obtain ⟨tgt, ht, rfl, ⟨hq, rfl⟩ | ⟨hq, rfl⟩⟩ := ia_cj_ok hs
    · exact lv_if_lt hx hb hd ht (fun _ => k) (fun q => absurd (of_decide_eq_true hq) q)
    · exact lv_if_lt hx hb hd ht (fun q => absurd q (of_decide_eq_false hq)) (fun _ => k)
  · obtain ⟨tgt, ht, rfl, ⟨hq, rfl⟩ | ⟨hq, rfl⟩⟩ := ia_cj_ok hs
    · exact lv_if_ge hx hb hd ht (fun _ => k) (fun q => absurd (of_decide_eq_true hq) q)
    · exact lv_if_ge hx hb hd ht (fun q => absurd q (of_decide_eq_false hq)) (fun _ => k)
  · obtain ⟨tgt, ht, rfl, ⟨hq, rfl⟩ | ⟨hq, rfl⟩⟩ := ia_cj_ok hs
    · exact lv_if_gt hx hb hd ht (fun _ => k) (fun q => absurd (of_decide_eq_true hq) q)
    · exact lv_if_gt hx hb hd ht (fun q => absurd q (of_decide_eq_false hq)) (fun _ => k)
  · obtain ⟨tgt, ht, rfl, ⟨hq, rfl⟩ | ⟨hq, rfl⟩⟩ := ia_cj_ok hs
    · exact lv_if_le hx hb hd ht (fun _ => k) (fun q => absurd (of_decide_eq_true hq) q)
    · exact lv_if_le hx hb hd ht (fun q => absurd q (of_decide_eq_false hq)) (fun _ => k)
  · obtain ⟨tgt, ht, rfl, ⟨hq, rfl⟩ | ⟨hq, rfl⟩⟩ := ia_cj_ok hs
    · exact lv_icmp_eq hx hb hd ht (fun _ => k) (fun q => absurd (of_decide_eq_true hq) q)
    · exact lv_icmp_eq hx hb hd ht (fun q => absurd q (of_decide_eq_false hq)) (fun _ => k)
  · obtain ⟨tgt, ht, rfl, ⟨hq, rfl⟩ | ⟨hq, rfl⟩⟩ := ia_cj_ok hs
    · exact lv_icmp_ne hx hb hd ht (fun _ => k) (fun q => absurd q (of_decide_eq_true hq))
    · exact lv_icmp_ne hx hb hd ht (fun q => absurd q (of_decide_eq_false hq)) (fun _ => k)
  · obtain ⟨tgt, ht, rfl, ⟨hq, rfl⟩ | ⟨hq, rfl⟩⟩ := ia_cj_ok hs
    · exact lv_icmp_lt hx hb hd ht (fun _ => k) (fun q => absurd (of_decide_eq_true hq) q)
    · exact lv_icmp_lt hx hb hd ht (fun q => absurd q (of_decide_eq_false hq)) (fun _ => k)
  · obtain ⟨tgt, ht, rfl, ⟨hq, rfl⟩ | ⟨hq, rfl⟩⟩ := ia_cj_ok hs
    · exact lv_icmp_ge hx hb hd ht (fun _ => k) (fun q => absurd (of_decide_eq_true hq) q)
    · exact lv_icmp_ge hx hb hd ht (fun q => absurd q (of_decide_eq_false hq)) (fun _ => k)
  · obtain ⟨tgt, ht, rfl, ⟨hq, rfl⟩ | ⟨hq, rfl⟩⟩ := ia_cj_ok hs
    · exact lv_icmp_gt hx hb hd ht (fun _ => k) (fun q => absurd (of_decide_eq_true hq) q)
    · exact lv_icmp_gt hx hb hd ht (fun q => absurd q (of_decide_eq_false hq)) (fun _ => k)
  · obtain ⟨tgt, ht, rfl, ⟨hq, rfl⟩ | ⟨hq, rfl⟩⟩ := ia_cj_ok hs
    · exact lv_icmp_le hx hb hd ht (fun _ => k) (fun q => absurd (of_decide_eq_true hq) q)
    · exact lv_icmp_le hx hb hd ht (fun q => absurd q (of_decide_eq_false hq)) (fun _ => k)
  · obtain ⟨ht, rfl⟩ := ia_tgo_ok hs; exact lv_goto hx hb hd ht k
  · obtain ⟨ht, rfl⟩ := ia_tgo_ok hs; exact lv_ifnullN hx hb hd ht k
  · cases hs; exact lv_ifnull hx hb hd k
  · obtain ⟨ht, rfl⟩ := ia_tgo_ok hs; exact lv_ifnonnull hx hb hd ht k
  · cases hs; exact lv_ifnonnullN hx hb hd k
  · split at hs
    · next h => obtain ⟨ht, rfl⟩ := ia_tgo_ok hs; exact lv_tableOut hx hb hd h ht k
    · next h =>
      split at hs
      · next ho => obtain ⟨ht, rfl⟩ := ia_tgo_ok hs; exact lv_tableIn hx hb hd (fun q => h (Or.inl q)) (fun q => h (Or.inr q)) ho ht k
      · cases hs
  · cases hs
end IB
