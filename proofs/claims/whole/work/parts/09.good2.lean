section II
def ia_wMy (own x i a b d kd : Nat) (y : MethodName) : List (Nat × Cond) :=
  if kd = 0 then [(i, Cond.methodLink (ia_rN0 own) x y), (a, Cond.static y), (b, Cond.initialized y.cls)]
  else if kd = 1 then [(i, Cond.methodLink (ia_rN0 own) x y), (a, Cond.instanceMethod y), (d, Cond.selects y.cls y y), (b, Cond.initialized y.cls)]
  else if kd = 2 then [(i, Cond.methodLink (ia_rN0 own) x y), (a, Cond.instanceMethod y), (b, Cond.initialized y.cls)]
  else if kd = 3 then [(i, Cond.methodLinkNest (ia_rN0 own) x y "TightLid"), (a, Cond.static y), (b, Cond.initialized y.cls)]
  else if kd = 4 then [(i, Cond.methodLinkNest (ia_rN0 own) x y "TightLid"), (a, Cond.instanceMethod y), (b, Cond.initialized y.cls)]
  else []
def ia_wM (r : Nat × Nat × Nat × Nat × Nat × Nat × Nat) : List (Nat × Cond) := match r with
  | (key, k, kd, i, a, b, d) => if kd = 6 then [(i, Cond.methodLink (ia_rN0 (key / 100000)) (key % 100000) objectInit), (a, Cond.instanceMethod objectInit), (b, Cond.code objectInit ⟨#[0xb1]⟩ 1 none)]
    else if kd = 7 then [(i, Cond.methodLink (ia_rN0 (key / 100000)) (key % 100000) arraycopyName), (a, Cond.native arraycopyName), (b, Cond.static arraycopyName), (d, Cond.initialized "java/lang/System")]
    else if kd = 8 then [(i, Cond.methodLink (ia_rN0 (key / 100000)) (key % 100000) ⟨(FieldType.array .int).toString, "clone", "()Ljava/lang/Object;"⟩), (751, Cond.sameMethod (FieldType.array .int).toString "java/lang/Object" "clone" "()Ljava/lang/Object;"), (752, Cond.native ⟨"java/lang/Object", "clone", "()Ljava/lang/Object;"⟩), (753, Cond.instanceMethod ⟨"java/lang/Object", "clone", "()Ljava/lang/Object;"⟩), (754, Cond.selects (FieldType.array .int).toString ⟨(FieldType.array .int).toString, "clone", "()Ljava/lang/Object;"⟩ ⟨"java/lang/Object", "clone", "()Ljava/lang/Object;"⟩), (755, Cond.castable (FieldType.array .int).toString "java/lang/Cloneable")]
    else if kd = 10 then [(i, Cond.methodLink (ia_rN0 (key / 100000)) (key % 100000) Lib.Math.max.name), (a, Cond.static Lib.Math.max.name), (b, Cond.initialized "java/lang/Math"), (d, Cond.code Lib.Math.max.name Lib.Math.max.code 2 (some .int))]
    else if kd = 11 then [(i, Cond.methodLink (ia_rN0 (key / 100000)) (key % 100000) Lib.Math.min.name), (a, Cond.static Lib.Math.min.name), (b, Cond.initialized "java/lang/Math"), (d, Cond.code Lib.Math.min.name Lib.Math.min.code 2 (some .int))]
    else if kd = 12 then [(i, Cond.methodLink (ia_rN0 (key / 100000)) (key % 100000) Lib.Math.abs.name), (a, Cond.static Lib.Math.abs.name), (b, Cond.initialized "java/lang/Math"), (d, Cond.code Lib.Math.abs.name Lib.Math.abs.code 1 (some .int))]
    else if kd = 13 then [(i, Cond.methodLink (ia_rN0 (key / 100000)) (key % 100000) Lib.MathLoose.max_long.x), (a, Cond.static Lib.MathLoose.max_long.x), (b, Cond.initialized "java/lang/Math"), (d, Cond.code Lib.MathLoose.max_long.x Lib.MathLoose.max_long.code 4 (some .long))]
    else if kd = 14 then [(i, Cond.methodLink (ia_rN0 (key / 100000)) (key % 100000) Lib.MathLoose.min_long.x), (a, Cond.static Lib.MathLoose.min_long.x), (b, Cond.initialized "java/lang/Math"), (d, Cond.code Lib.MathLoose.min_long.x Lib.MathLoose.min_long.code 4 (some .long))]
    else match ia_mt0 k with
      | some (_, y, _, _, _, _) => ia_wMy (key / 100000) (key % 100000) i a b d kd y
      | none => []
set_option maxRecDepth 100000 in
theorem ia_wM_ok_0 : ia_wok (((ia_LM).drop 0).take 20 |>.flatMap ia_wM) := ia_wok_of rfl (by decide +kernel)
set_option maxRecDepth 100000 in
theorem ia_wM_ok_1 : ia_wok (((ia_LM).drop 20).take 20 |>.flatMap ia_wM) := ia_wok_of rfl (by decide +kernel)
set_option maxRecDepth 100000 in
theorem ia_wM_ok_2 : ia_wok (((ia_LM).drop 40).take 20 |>.flatMap ia_wM) := ia_wok_of rfl (by decide +kernel)
set_option maxRecDepth 100000 in
theorem ia_wM_ok_3 : ia_wok (((ia_LM).drop 60).take 20 |>.flatMap ia_wM) := ia_wok_of rfl (by decide +kernel)
set_option maxRecDepth 100000 in
theorem ia_wM_ok_4 : ia_wok (((ia_LM).drop 80).take 20 |>.flatMap ia_wM) := ia_wok_of rfl (by decide +kernel)
set_option maxRecDepth 100000 in
theorem ia_wM_ok_5 : ia_wok (((ia_LM).drop 100).take 20 |>.flatMap ia_wM) := ia_wok_of rfl (by decide +kernel)
set_option maxRecDepth 100000 in
theorem ia_wM_ok_6 : ia_wok (((ia_LM).drop 120).take 20 |>.flatMap ia_wM) := ia_wok_of rfl (by decide +kernel)
set_option maxRecDepth 100000 in
theorem ia_wM_ok_7 : ia_wok (((ia_LM).drop 140).take 20 |>.flatMap ia_wM) := ia_wok_of rfl (by decide +kernel)
set_option maxRecDepth 100000 in
theorem ia_wM_ok_8 : ia_wok (((ia_LM).drop 160).take 20 |>.flatMap ia_wM) := ia_wok_of rfl (by decide +kernel)
set_option maxRecDepth 100000 in
theorem ia_wM_ok_9 : ia_wok (((ia_LM).drop 180).take 20 |>.flatMap ia_wM) := ia_wok_of rfl (by decide +kernel)
set_option maxRecDepth 100000 in
theorem ia_wM_ok_10 : ia_wok (((ia_LM).drop 200).take 20 |>.flatMap ia_wM) := ia_wok_of rfl (by decide +kernel)
set_option maxRecDepth 100000 in
theorem ia_wM_ok_11 : ia_wok (((ia_LM).drop 220).take 20 |>.flatMap ia_wM) := ia_wok_of rfl (by decide +kernel)
set_option maxRecDepth 100000 in
theorem ia_wM_ok_12 : ia_wok (((ia_LM).drop 240).take 20 |>.flatMap ia_wM) := ia_wok_of rfl (by decide +kernel)
set_option maxRecDepth 100000 in
theorem ia_wM_ok_13 : ia_wok (((ia_LM).drop 260).take 20 |>.flatMap ia_wM) := ia_wok_of rfl (by decide +kernel)
set_option maxRecDepth 100000 in
theorem ia_wM_ok_14 : ia_wok (((ia_LM).drop 280).take 20 |>.flatMap ia_wM) := ia_wok_of rfl (by decide +kernel)
set_option maxRecDepth 100000 in
theorem ia_wM_ok_15 : ia_wok (((ia_LM).drop 300).take 20 |>.flatMap ia_wM) := ia_wok_of rfl (by decide +kernel)
set_option maxRecDepth 100000 in
theorem ia_wM_ok_16 : ia_wok (((ia_LM).drop 320).take 20 |>.flatMap ia_wM) := ia_wok_of rfl (by decide +kernel)
set_option maxRecDepth 100000 in
theorem ia_wM_ok_17 : ia_wok (((ia_LM).drop 340).take 20 |>.flatMap ia_wM) := ia_wok_of rfl (by decide +kernel)
set_option maxRecDepth 100000 in
theorem ia_wM_ok_18 : ia_wok (((ia_LM).drop 360).take 20 |>.flatMap ia_wM) := ia_wok_of rfl (by decide +kernel)
theorem ia_wM_ok : ∀ r ∈ ia_LM, ia_wok (ia_wM r) := by
  intro r hr
  obtain ⟨i, hi⟩ := List.getElem?_of_mem hr
  have hlt : i < (ia_LM).length := (List.getElem?_eq_some_iff.mp hi).1
  have hlen : (ia_LM).length = 374 := by decide +kernel
  have key : ∀ s, s ≤ i → i < s + 20 → ia_wok ((((ia_LM).drop s).take 20).flatMap ia_wM) → ia_wok (ia_wM r) := by
    intro s h1 h2 h p hp
    refine h p (List.mem_flatMap.mpr ⟨r, ?_, hp⟩)
    apply List.mem_of_getElem? (i := i - s)
    rw [List.getElem?_take_of_lt (by omega), List.getElem?_drop, show s + (i - s) = i by omega, hi]
  by_cases h0 : i < 20
  · exact key 0 (by omega) h0 ia_wM_ok_0
  by_cases h1 : i < 40
  · exact key 20 (by omega) h1 ia_wM_ok_1
  by_cases h2 : i < 60
  · exact key 40 (by omega) h2 ia_wM_ok_2
  by_cases h3 : i < 80
  · exact key 60 (by omega) h3 ia_wM_ok_3
  by_cases h4 : i < 100
  · exact key 80 (by omega) h4 ia_wM_ok_4
  by_cases h5 : i < 120
  · exact key 100 (by omega) h5 ia_wM_ok_5
  by_cases h6 : i < 140
  · exact key 120 (by omega) h6 ia_wM_ok_6
  by_cases h7 : i < 160
  · exact key 140 (by omega) h7 ia_wM_ok_7
  by_cases h8 : i < 180
  · exact key 160 (by omega) h8 ia_wM_ok_8
  by_cases h9 : i < 200
  · exact key 180 (by omega) h9 ia_wM_ok_9
  by_cases h10 : i < 220
  · exact key 200 (by omega) h10 ia_wM_ok_10
  by_cases h11 : i < 240
  · exact key 220 (by omega) h11 ia_wM_ok_11
  by_cases h12 : i < 260
  · exact key 240 (by omega) h12 ia_wM_ok_12
  by_cases h13 : i < 280
  · exact key 260 (by omega) h13 ia_wM_ok_13
  by_cases h14 : i < 300
  · exact key 280 (by omega) h14 ia_wM_ok_14
  by_cases h15 : i < 320
  · exact key 300 (by omega) h15 ia_wM_ok_15
  by_cases h16 : i < 340
  · exact key 320 (by omega) h16 ia_wM_ok_16
  by_cases h17 : i < 360
  · exact key 340 (by omega) h17 ia_wM_ok_17
  exact key 360 (by omega) (by omega) ia_wM_ok_18
set_option maxRecDepth 100000 in
theorem ia_ini_all : ia_LM.all (fun r => if r.2.2.1 = 2 ∨ r.2.2.1 = 4 then (match ia_mt0 r.2.1 with
  | some (_, y, _, _, ret, _) => decide (y.name = "<init>") && decide (ret = none)
  | none => true) else true) = true := by decide +kernel
theorem ia_gM0 (L : Nat) (xs : Nat → Int32) (fm : Bool) : ia_gM (ia_P0 L xs fm) (ia_Ts ++ ia_Xs) := by
  intro own x k kd h
  have h : ia_tM0 own x = some (k, kd) := h
  unfold ia_tM0 at h
  split at h
  · next hx =>
    obtain ⟨⟨k0, kd0, i, a, b, d⟩, hr, he⟩ := Option.map_eq_some_iff.mp h
    obtain ⟨rfl, rfl⟩ : k0 = k ∧ kd0 = kd := Prod.mk.inj he
    have hm := ia_lk_mem _ _ _ hr
    have hc := ia_wM_ok _ hm
    have hi := List.all_eq_true.mp ia_ini_all _ hm
    unfold ia_wM at hc
    obtain ⟨e1, e2⟩ := ia_key (own := own) hx
    dsimp only at hc hi
    rw [e1, e2] at hc
    have hmy : ∀ {ck : Nat} {y : MethodName} {cc : ByteArray} {nL : Nat} {ret : Option FieldType} {np : Nat}, kd0 < 6 → ia_mt0 k0 = some (ck, y, cc, nL, ret, np) → ia_wok (ia_wMy own x i a b d kd0 y) := fun n6 hm => by
      rw [if_neg (by omega), if_neg (by omega), if_neg (by omega), if_neg (by omega), if_neg (by omega), if_neg (by omega), if_neg (by omega), if_neg (by omega), hm] at hc
      exact hc
    have hin : ∀ {ck : Nat} {y : MethodName} {cc : ByteArray} {nL : Nat} {ret : Option FieldType} {np : Nat}, (kd0 = 2 ∨ kd0 = 4) → ia_mt0 k0 = some (ck, y, cc, nL, ret, np) → y.name = "<init>" ∧ ret = none := fun q hm => by
      rw [if_pos q, hm] at hi
      simp only [Bool.and_eq_true, decide_eq_true_eq] at hi
      exact hi
    have m0 : ∀ {p : Nat × Cond} {l : List (Nat × Cond)}, p ∈ p :: l := List.mem_cons_self
    refine ⟨?_, ?_, ?_, ?_, ?_, ?_, ?_, ?_, ?_, ?_, ?_, ?_, ?_⟩
    · rintro rfl ck y cc nL ret np hm
      have h := hmy (by decide) hm
      rw [ia_wMy, if_pos rfl] at h
      exact ⟨h _ m0, h _ (List.mem_cons_of_mem _ m0), h _ (List.mem_cons_of_mem _ (List.mem_cons_of_mem _ m0))⟩
    · rintro rfl ck y cc nL ret np hm
      have h := hmy (by decide) hm
      rw [ia_wMy, if_neg (by decide), if_pos rfl] at h
      exact ⟨h _ m0, h _ (List.mem_cons_of_mem _ m0), h _ (List.mem_cons_of_mem _ (List.mem_cons_of_mem _ m0)), h _ (List.mem_cons_of_mem _ (List.mem_cons_of_mem _ (List.mem_cons_of_mem _ m0)))⟩
    · rintro rfl ck y cc nL ret np hm
      have h := hmy (by decide) hm
      rw [ia_wMy, if_neg (by decide), if_neg (by decide), if_pos rfl] at h
      obtain ⟨a1, a2⟩ := hin (Or.inl rfl) hm
      exact ⟨h _ m0, h _ (List.mem_cons_of_mem _ m0), h _ (List.mem_cons_of_mem _ (List.mem_cons_of_mem _ m0)), a1, a2⟩
    · rintro rfl ck y cc nL ret np hm
      have h := hmy (by decide) hm
      rw [ia_wMy, if_neg (by decide), if_neg (by decide), if_neg (by decide), if_pos rfl] at h
      exact ⟨_, h _ m0, h _ (List.mem_cons_of_mem _ m0), h _ (List.mem_cons_of_mem _ (List.mem_cons_of_mem _ m0))⟩
    · rintro rfl ck y cc nL ret np hm
      have h := hmy (by decide) hm
      rw [ia_wMy, if_neg (by decide), if_neg (by decide), if_neg (by decide), if_neg (by decide), if_pos rfl] at h
      obtain ⟨a1, a2⟩ := hin (Or.inr rfl) hm
      exact ⟨_, h _ m0, h _ (List.mem_cons_of_mem _ m0), h _ (List.mem_cons_of_mem _ (List.mem_cons_of_mem _ m0)), a1, a2⟩
    · rintro rfl
      rw [if_pos rfl] at hc
      exact ⟨hc _ m0, hc _ (List.mem_cons_of_mem _ m0), hc _ (List.mem_cons_of_mem _ (List.mem_cons_of_mem _ m0))⟩
    · rintro rfl
      rw [if_neg (by decide), if_neg (by decide), if_pos rfl] at hc
      exact ⟨hc _ m0, hc _ (List.mem_cons_of_mem _ m0), hc _ (List.mem_cons_of_mem _ (List.mem_cons_of_mem _ m0)), hc _ (List.mem_cons_of_mem _ (List.mem_cons_of_mem _ (List.mem_cons_of_mem _ m0))), hc _ (List.mem_cons_of_mem _ (List.mem_cons_of_mem _ (List.mem_cons_of_mem _ (List.mem_cons_of_mem _ m0)))), hc _ (List.mem_cons_of_mem _ (List.mem_cons_of_mem _ (List.mem_cons_of_mem _ (List.mem_cons_of_mem _ (List.mem_cons_of_mem _ m0)))))⟩
    · rintro rfl
      rw [if_neg (by decide), if_pos rfl] at hc
      exact ⟨hc _ m0, hc _ (List.mem_cons_of_mem _ m0), hc _ (List.mem_cons_of_mem _ (List.mem_cons_of_mem _ m0)), hc _ (List.mem_cons_of_mem _ (List.mem_cons_of_mem _ (List.mem_cons_of_mem _ m0)))⟩
    · rintro rfl
      rw [if_neg (by decide), if_neg (by decide), if_neg (by decide), if_pos rfl] at hc
      exact ⟨hc _ m0, hc _ (List.mem_cons_of_mem _ m0), hc _ (List.mem_cons_of_mem _ (List.mem_cons_of_mem _ m0)), hc _ (List.mem_cons_of_mem _ (List.mem_cons_of_mem _ (List.mem_cons_of_mem _ m0)))⟩
    · rintro rfl
      rw [if_neg (by decide), if_neg (by decide), if_neg (by decide), if_neg (by decide), if_pos rfl] at hc
      exact ⟨hc _ m0, hc _ (List.mem_cons_of_mem _ m0), hc _ (List.mem_cons_of_mem _ (List.mem_cons_of_mem _ m0)), hc _ (List.mem_cons_of_mem _ (List.mem_cons_of_mem _ (List.mem_cons_of_mem _ m0)))⟩
    · rintro rfl
      rw [if_neg (by decide), if_neg (by decide), if_neg (by decide), if_neg (by decide), if_neg (by decide), if_pos rfl] at hc
      exact ⟨hc _ m0, hc _ (List.mem_cons_of_mem _ m0), hc _ (List.mem_cons_of_mem _ (List.mem_cons_of_mem _ m0)), hc _ (List.mem_cons_of_mem _ (List.mem_cons_of_mem _ (List.mem_cons_of_mem _ m0)))⟩
    · rintro rfl
      rw [if_neg (by decide), if_neg (by decide), if_neg (by decide), if_neg (by decide), if_neg (by decide), if_neg (by decide), if_pos rfl] at hc
      exact ⟨hc _ m0, hc _ (List.mem_cons_of_mem _ m0), hc _ (List.mem_cons_of_mem _ (List.mem_cons_of_mem _ m0)), hc _ (List.mem_cons_of_mem _ (List.mem_cons_of_mem _ (List.mem_cons_of_mem _ m0)))⟩
    · rintro rfl
      rw [if_neg (by decide), if_neg (by decide), if_neg (by decide), if_neg (by decide), if_neg (by decide), if_neg (by decide), if_neg (by decide), if_pos rfl] at hc
      exact ⟨hc _ m0, hc _ (List.mem_cons_of_mem _ m0), hc _ (List.mem_cons_of_mem _ (List.mem_cons_of_mem _ m0)), hc _ (List.mem_cons_of_mem _ (List.mem_cons_of_mem _ (List.mem_cons_of_mem _ m0)))⟩
  · cases h
end II
