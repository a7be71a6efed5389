/-! The class keeps a law, a plan: rows made. -/
section QC
def cpRow (f : Nat → Int32) (N m : Nat) : Nat → Int32 := if m = N then f else va_cpy f (fun _ => 0) 0 0 m
theorem cpRow_lt {f : Nat → Int32} {N m k : Nat} (h : k < m) : cpRow f N m k = f k := by
  unfold cpRow
  split
  · rfl
  · show (if 0 ≤ k ∧ k < 0 + m then f (0 + (k - 0)) else 0) = f k
    rw [if_pos ⟨Nat.zero_le _, by omega⟩, Nat.zero_add, Nat.sub_zero]
/-- a row more -/
def sN (S : zS) (r : Nat → Int32) (m : Nat) : zS := (fun b => if b = S.2.2.2 then r else S.1 b, S.2.1, fun b => if b = S.2.2.2 then m else S.2.2.1 b, S.2.2.2 + 1)
theorem sN_at (S : zS) (r : Nat → Int32) (m : Nat) : (sN S r m).1 S.2.2.2 = r := if_pos rfl
theorem sN_ne (S : zS) (r : Nat → Int32) (m : Nat) {b : Nat} (h : b ≠ S.2.2.2) : (sN S r m).1 b = S.1 b := if_neg h
theorem zE.mk {h0 : Nat → va_E} {S : zS} {h h' : Nat → va_E} {t t' : Nat × Nat × Nat} (hE : zE (zDc t.1) h0 S (h, t)) (h64 : 64 ≤ t.1) (ht : t'.1 = t.1 + 1) {r : Nat → Int32} {m : Nat} (h1 : h' t.1 = .inl (0, m, .inl r)) (h2 : ∀ a, a ≠ t.1 → h' a = h a) : zE (zDc t'.1) h0 (sN S r m) (h', t') := by
  obtain ⟨e1, e2, e3⟩ := hE
  have e1 : S.2.2.2 = t.1 := e1
  refine ⟨?_, fun a e ha => ?_, fun a ha => ?_⟩
  · show S.2.2.2 + 1 = t'.1
    omega
  · rw [ht] at ha
    by_cases q : a = t.1
    · subst q
      rw [dc_dyn (by omega)] at ha
      cases ha
      refine ⟨show t.1 < t'.1 by omega, ?_⟩
      show h' t.1 = _
      rw [h1]
      show _ = Sum.inl (0, (if t.1 = S.2.2.2 then m else S.2.2.1 t.1), Sum.inl (if t.1 = S.2.2.2 then r else S.1 t.1))
      rw [if_pos e1.symm, if_pos e1.symm]
    · have ha' : zDc t.1 a = some e := by
        unfold zDc at ha ⊢
        split at ha
        · next z => rw [if_pos z]; exact ha
        · next z =>
          rw [if_neg z]
          split at ha
          · next z2 => rw [if_pos (show 64 ≤ a ∧ a < t.1 by omega)]; exact ha
          · cases ha
      obtain ⟨g1, g2⟩ := e2 a e ha'
      have g1 : a < t.1 := g1
      refine ⟨show a < t'.1 by omega, ?_⟩
      show h' a = _
      rw [h2 a q, show h a = zen S a e from g2]
      exact (zen_congr (S := S) (S' := sN S r m) (if_neg (by omega)) rfl (if_neg (by omega))).symm
  · rw [ht] at ha
    have q : a ≠ t.1 := fun q => by
      subst q
      rw [dc_dyn (by omega)] at ha
      cases ha
    show h' a = h0 a
    rw [h2 a q]
    refine e3 a ?_
    unfold zDc at ha ⊢
    split at ha
    · next z => rw [if_pos z]; exact ha
    · next z =>
      rw [if_neg z]
      split at ha
      · cases ha
      · next z2 => rw [if_neg (fun z3 => z2 ⟨z3.1, by omega⟩)]
section R
variable {P : ia_T} {ex : Nat → List Value → ia_H → Option (List Value × ia_H)} {d own pc nL x k : Nat} {ini : Bool} {cc : ByteArray} {ret : Option FieldType} {lv : List (Nat × Value)} {st : List Value} {hp : ia_H} {Q : Option Value → ia_H → Prop} {D : Nat → Option zD} {h0 : Nat → va_E} {S : zS}
theorem z_aastore {a b N m : Nat} {g : Nat → Int32} {fds : List (Nat × Value)} {j : Int32} (hd : decode cc pc = .ok (.aastore, 1)) (hE : zE D h0 S hp) (ha : D a = some (4, N, fds)) (hb : b < hp.2.1) (hbf : hp.1 b = .inl (0, m, .inl g)) (hj : ia_in j N = true) (kk : ∀ h', zE D h0 (sK S a j.toNatClampNeg (.ref b)) (h', hp.2) → zW P ex d own ini cc nL ret (pc + 1) lv st (h', hp.2) Q) : zW P ex d own ini cc nL ret pc lv (.ref b :: .int j :: .ref a :: st) hp Q := by
  have hh : hp.1 a = .inl (4, N, .inr (.inr (.inr (.inr (fun i => zrf (S.2.1 a i)))))) := (hE.2.1 a _ ha).2
  have hrow : (fun i => zrf ((sK S a j.toNatClampNeg (.ref b)).2.1 a i)) = va_up (fun i => zrf (S.2.1 a i)) j.toNatClampNeg (some b) := by
    funext i
    show zrf (zu S.2.1 a j.toNatClampNeg (.ref b) a i) = _
    by_cases q : i = j.toNatClampNeg
    · subst q
      rw [zu_at, va_up_self]
      rfl
    · rw [zu_nj _ _ _ q, va_up_ne _ _ q]
  refine z_wr hd rfl ?_ (kk _ (hE.put (S' := sK S a j.toNatClampNeg (.ref b)) (x := .inl (4, N, .inr (.inr (.inr (.inr (fun i => zrf ((sK S a j.toNatClampNeg (.ref b)).2.1 a i))))))) ha rfl rfl (fun c hc => ⟨rfl, zu_row _ _ _ _ hc, rfl⟩)))
  unfold ia_wr
  simp only [hh, hbf]
  rw [if_pos ⟨(hE.2.1 a _ ha).1, hb, hj⟩, hrow]
theorem w_copyOf {L : Nat} {xs : Nat → Int32} {fm : Bool} {h : Nat → va_E} {t : Nat × Nat × Nat} {a N m : Nat} {f : Nat → Int32} (hn : t.1 < 1000000) (ho : ia_okh h t.1 = true) (ha : a < t.1) (hf : h a = .inl (0, N, .inl f)) (hN : N ≤ 100000) (hm : m ≤ N) (d : Nat) :
    zC (ia_P0 L xs fm) (d + 1) 904001 [.ref a, .int (Int32.ofNat m)] (h, t) (fun v hp => v = some (.ref t.1) ∧ ∃ h', hp = (h', t.1 + 1, t.2.1 + 1, t.2.2 + m) ∧ h' t.1 = .inl (0, m, .inl (cpRow f N m)) ∧ ∀ c, c ≠ t.1 → h' c = h c) := by
  have at0 : ia_at (ia_P0 L xs fm) h t.1 a = some (.inl (0, N, .inl f)) := by
    unfold ia_at
    rw [if_pos ha, hf]
  have oa : ∀ n, t.1 ≤ n → ia_okv n (.ref a) = true := fun n hn => by
    simp only [ia_okv, Bool.or_eq_true, decide_eq_true_eq]
    exact Or.inl (Nat.lt_of_lt_of_le ha hn)
  refine zC_of mt_904001 nn_904001 (Nat.le_of_ble_eq_true rfl) ?_
  refine zW_lv (lv' := [(0, .ref a), (1, .int (Int32.ofNat m))]) rfl ?_
  refine z_iload_n dJ7_copyOf_59c91_0 rfl ?_
  refine z_aload_n dJ7_copyOf_59c91_1 rfl ?_
  refine z_rd (st' := [.int (Int32.ofNat N), .int (Int32.ofNat m)]) dJ7_copyOf_59c91_2 rfl (by unfold ia_rd; simp only [at0]; rfl) ?_
  by_cases q : m = N
  · refine z_icmp_ne_f (tgt := 14) dJ7_copyOf_59c91_3 (by decide) (nn (by rw [q])) ?_
    refine z_aload_n dJ7_copyOf_59c91_6 rfl ?_
    have cl : ia_cln (ia_P0 L xs fm) 904 (.invokevirtual 316) 3 [.ref a] h t.1 = some ([.ref t.1], .inl (0, N, .inl f), N) := by
      unfold ia_cln
      refine Eq.trans (if_pos (show ia_tM (ia_P0 L xs fm) 904 316 = some (9002, 8) ∧ (([] : List Value).map fun v => v.category).sum ≤ 8 ∧ a < t.1 from ⟨tM_904_316, by decide, ha⟩)) ?_
      simp only [hf]
    have z : ∀ {Q}, zW (ia_P0 L xs fm) ia_nx d 904 false cJ7_copyOf_59c91 3 (some (.array .int)) (7 + 3) [(0, .ref a), (1, .int (Int32.ofNat m))] [.ref t.1] (va_up h t.1 (.inl (0, N, .inl f)), t.1 + 1, t.2.1 + 1, t.2.2 + N) Q → zW (ia_P0 L xs fm) ia_nx d 904 false cJ7_copyOf_59c91 3 (some (.array .int)) 7 [(0, .ref a), (1, .int (Int32.ofNat m))] [.ref a] (h, t) Q := by
      intro Q k
      obtain ⟨F, fu, v, hp', e, qq⟩ := k
      refine ⟨F, fu + 1, v, hp', ?_, qq⟩
      have p1 : ia_prim (ia_P0 L xs fm) 904 (.invokevirtual 316) 3 [.ref a] h t.1 = none := rfl
      have p2 : ia_inv (ia_P0 L xs fm) 904 (.invokevirtual 316) 3 [.ref a] h t.1 = none := by
        unfold ia_inv
        simp only [tM_904_316]
        rfl
      have p3 : ia_okh h t.1 = true ∧ ia_oks t.1 [(0, .ref a), (1, .int (Int32.ofNat m))] ([.ref t.1] : List Value).tail = true ∧ t.1 < 1000000 := by
        refine ⟨ho, ?_, hn⟩
        unfold ia_oks
        simp only [List.all_cons, List.all_nil, List.tail_cons, oa t.1 (Nat.le_refl _), Bool.and_true]
        rfl
      rw [ia_lp_6 dJ7_copyOf_59c91_7 rfl]
      have nx : ia_nx 7 [.ref a] (h, t) = none := rfl
      rw [nx]
      dsimp only
      rw [p1]
      dsimp only
      rw [p2]
      dsimp only
      rw [cl]
      dsimp only
      rw [if_pos p3]
      exact e
    refine z ?_
    have hself : va_up h t.1 (.inl (0, N, .inl f) : va_E) t.1 = .inl (0, N, .inl f) := va_up_self _ _ _
    refine z_rd (st' := [.ref t.1]) dJ7_copyOf_59c91_10 rfl ?_ ?_
    · unfold ia_rd
      simp only [hself]
      rw [if_pos ⟨rfl, Nat.lt_succ_self _⟩]
    · refine z_areturn dJ7_copyOf_59c91_13 rfl ⟨rfl, va_up h t.1 (.inl (0, N, .inl f)), by rw [q], ?_, fun c hc => va_up_ne _ _ hc⟩
      rw [hself]
      unfold cpRow
      rw [if_pos q, q]
  · refine z_icmp_ne_t (tgt := 14) dJ7_copyOf_59c91_3 (by decide) (fun z => q ((io_eq (by omega) (by omega)).mp z)) ?_
    refine z_iload_n dJ7_copyOf_59c91_14 rfl ?_
    have tm := ti_nat (n := m) (by omega)
    refine z_mk (st' := [.ref t.1]) (e := .inl (0, m, .inl (fun _ => 0))) (z := m) dJ7_copyOf_59c91_15 rfl ?_ ⟨ho, ?_, hn⟩ ?_
    · unfold ia_mk
      refine Eq.trans (if_pos (show 0 ≤ (Int32.ofNat m).toInt ∧ (Int32.ofNat m).toInt ≤ 100000 from ⟨by omega, by omega⟩)) ?_
      rw [io_cl (by omega)]
    · unfold ia_oks
      simp only [List.all_cons, List.all_nil, List.tail_cons, oa t.1 (Nat.le_refl _), Bool.and_true]
      rfl
    have hself : va_up h t.1 (.inl (0, m, .inl (fun _ => 0)) : va_E) t.1 = .inl (0, m, .inl (fun _ => 0)) := va_up_self _ _ _
    have hoth : va_up h t.1 (.inl (0, m, .inl (fun _ => 0)) : va_E) a = .inl (0, N, .inl f) := by
      rw [va_up_ne _ _ (by omega)]
      exact hf
    refine z_astore_n dJ7_copyOf_59c91_17 (by decide) rfl ?_
    refine z_aload_n dJ7_copyOf_59c91_18 rfl ?_
    refine z_iconst (v := 0) dJ7_copyOf_59c91_19 (by decide) ?_
    refine z_aload_n dJ7_copyOf_59c91_20 rfl ?_
    refine z_iconst (v := 0) dJ7_copyOf_59c91_21 (by decide) ?_
    refine z_aload_n dJ7_copyOf_59c91_22 rfl ?_
    refine z_rd (st' := [.int (Int32.ofNat N), .int 0, .ref t.1, .int 0, .ref a]) dJ7_copyOf_59c91_23 rfl ?_ ?_
    · unfold ia_rd ia_at
      simp only [if_pos (show a < t.1 + 1 by omega), hoth]
      rfl
    refine z_iload_n dJ7_copyOf_59c91_24 rfl ?_
    refine z_prim (st' := [.int (Int32.ofNat m), .int 0, .ref t.1, .int 0, .ref a]) (h' := va_up h t.1 (.inl (0, m, .inl (fun _ => 0)))) dJ7_copyOf_59c91_25 rfl ?_ rfl ?_
    · unfold ia_prim
      simp only [tM_904_304]
      rw [if_pos (Nat.le_of_ble_eq_true rfl), if_pos ((io_lt (by omega) (by omega)).mpr (by omega))]
    refine z_prim (st' := []) (h' := va_up (va_up h t.1 (.inl (0, m, .inl (fun _ => 0)))) t.1 (.inl (0, m, .inl (va_cpy f (fun _ => 0) 0 0 m)))) dJ7_copyOf_59c91_28 rfl ?_ rfl ?_
    · unfold ia_prim
      simp only [tM_904_150]
      rw [if_pos ⟨by decide, by show a < t.1 + 1; omega, Nat.lt_succ_self _⟩]
      simp only [hself, hoth]
      rw [if_pos ⟨by decide, by decide, by omega, by rw [tm, ti_0]; omega, by rw [tm, ti_0]; omega⟩, io_cl (by omega)]
      rfl
    refine z_aload_n dJ7_copyOf_59c91_31 rfl ?_
    refine z_areturn dJ7_copyOf_59c91_32 rfl ⟨rfl, _, rfl, ?_, fun c hc => ?_⟩
    · rw [va_up_self]
      unfold cpRow
      rw [if_neg q]
    · rw [va_up_ne _ _ hc, va_up_ne _ _ hc]
end R
end QC
