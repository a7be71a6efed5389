/-! a call of the class and the same of the reference, in one heap (written by gen87.py). -/
section NE
variable {L : Nat} {xs : Nat → Int32} {fm : Bool} {M d : Nat} {hp : ia_H} {A B : zS}
/-- a pair of calls: the same answer, the relation behind -/
def Pr (P : ia_T) (d k1 k2 : Nat) (as : List Value) (M : Nat) (hp : ia_H) : Prop := ∃ r : Int32, zC P d k1 (.ref 0 :: as) hp (fun v h1 => v = some (.int r) ∧ (hp.2.1 ≤ h1.2.1 ∧ h1.2.1 ≤ hp.2.1 + 1 ∧ h1.2.2.1 ≤ hp.2.2.1 + 1 ∧ h1.2.2.2 ≤ hp.2.2.2 + 202) ∧ (∃ A1 B1, Both A1 B1 h1) ∧ zC P d k2 (.ref 41 :: as) h1 (fun v2 h2 => v2 = some (.int r) ∧ h2.2 = h1.2 ∧ ∃ A' B', Both A' B' h2 ∧ Inv M A' B'))
theorem okS_two {n a : Nat} {as : List Value} (hn : 64 ≤ n) (ha : a < 64) (h : okS n as) : okS n (.ref a :: as) := okS_c.mpr ⟨by unfold ia_okv; simp only [Bool.or_eq_true, decide_eq_true_eq]; exact Or.inl (Nat.lt_of_lt_of_le ha hn), h⟩
theorem pr_of {P : ia_T} {k1 k2 : Nat} {as : List Value} {fC fR : zS → Option (Int32 × zS)} (G : gdT P) (H : Both A B hp) (HS : okS hp.2.1 as) (hs : Sim M (fC A) (fR B))
    (hc : ∀ R, zE (zDc hp.2.1) hp.1 A (hp.1, hp.2) → fC A = some R → zC P d k1 (.ref 0 :: as) (hp.1, hp.2) (zQi (zDc hp.2.1) hp.1 hp.2 R)) (hr : ∀ h' R, zE zDr h' B (h', hp.2) → fR B = some R → zC P d k2 (.ref 41 :: as) (h', hp.2) (zQi zDr h' hp.2 R)) : Pr P d k1 k2 as (M + 1000) hp := by
  obtain ⟨h, t⟩ := hp
  have n64 : 64 ≤ t.1 := H.2.2.2.2
  obtain ⟨r, A', B', e1, e2, I⟩ := hs
  refine ⟨r, ?_⟩
  obtain ⟨F, v, hp', c1, c2, c3, c4⟩ := both_c G H (okS_two n64 (by omega) HS) (hc _ H.1 e1)
  obtain ⟨h', t'⟩ := hp'
  have c3 : t' = t := c3
  subst c3
  refine ⟨F, v, (h', t'), c1, c2, ⟨Nat.le_refl _, Nat.le_succ _, Nat.le_succ _, Nat.le_add_right _ _⟩, ⟨_, _, c4⟩, ?_⟩
  obtain ⟨F2, v2, hp2, g1, g2, g3, g4⟩ := both_r G c4 (okS_two n64 (by omega) HS) (hr h' _ c4.2.1 e2)
  exact ⟨F2, v2, hp2, g1, g2, g3, A', B', g4, I⟩
theorem pr_heat (H : Both A B hp) (I : Inv M A B) (hM : M < 900000) (hn : hp.2.1 < 1000000) (v1 : Int32) : Pr (ia_P0 L xs fm) (d + 150) 11021 12057 [.int v1] (M + 1000) hp := by
  obtain ⟨nj, nh, nt, I⟩ := I
  exact pr_of (fC := (fun S => f_X11_heat v1 S)) (fR := (fun S => f_X12_heat v1 S)) (gdT_0 L xs fm) H rfl (op_heat I hM v1) (fun R hE e => (w_X11_heat (L := L) (xs := xs) (fm := fm) H.2.2.2.2 (Nat.le_of_lt hn) 0 hE e).mono (by omega)) (fun h' R hE e => (w_X12_heat (L := L) (xs := xs) (fm := fm) H.2.2.2.2 (Nat.le_of_lt hn) 0 hE e).mono (by omega))
theorem pr_work (H : Both A B hp) (I : Inv M A B) (hM : M < 900000) (hn : hp.2.1 < 1000000) (v1 : Int32) : Pr (ia_P0 L xs fm) (d + 150) 11022 12060 [.int v1] (M + 1000) hp := by
  obtain ⟨nj, nh, nt, I⟩ := I
  exact pr_of (fC := (fun S => f_X11_work v1 S)) (fR := (fun S => f_X12_work v1 S)) (gdT_0 L xs fm) H rfl (op_work I hM v1) (fun R hE e => (w_X11_work (L := L) (xs := xs) (fm := fm) H.2.2.2.2 (Nat.le_of_lt hn) 0 hE e).mono (by omega)) (fun h' R hE e => (w_X12_work (L := L) (xs := xs) (fm := fm) H.2.2.2.2 (Nat.le_of_lt hn) 0 hE e).mono (by omega))
theorem pr_dry (H : Both A B hp) (I : Inv M A B) (hM : M < 900000) (hn : hp.2.1 < 1000000) (v1 : Int32) : Pr (ia_P0 L xs fm) (d + 150) 11023 12062 [.int v1] (M + 1000) hp := by
  obtain ⟨nj, nh, nt, I⟩ := I
  exact pr_of (fC := (fun S => f_X11_dry v1 S)) (fR := (fun S => f_X12_dry v1 S)) (gdT_0 L xs fm) H rfl (op_dry I hM v1) (fun R hE e => (w_X11_dry (L := L) (xs := xs) (fm := fm) H.2.2.2.2 (Nat.le_of_lt hn) 0 hE e).mono (by omega)) (fun h' R hE e => (w_X12_dry (L := L) (xs := xs) (fm := fm) H.2.2.2.2 (Nat.le_of_lt hn) 0 hE e).mono (by omega))
theorem pr_pause (H : Both A B hp) (I : Inv M A B) (hM : M < 900000) (hn : hp.2.1 < 1000000) (v1 : Int32) : Pr (ia_P0 L xs fm) (d + 150) 11024 12064 [.int v1] (M + 1000) hp := by
  obtain ⟨nj, nh, nt, I⟩ := I
  exact pr_of (fC := (fun S => f_X11_pause v1 S)) (fR := (fun S => f_X12_pause v1 S)) (gdT_0 L xs fm) H rfl (op_pause I hM v1) (fun R hE e => (w_X11_pause (L := L) (xs := xs) (fm := fm) H.2.2.2.2 (Nat.le_of_lt hn) 0 hE e).mono (by omega)) (fun h' R hE e => (w_X12_pause (L := L) (xs := xs) (fm := fm) H.2.2.2.2 (Nat.le_of_lt hn) 0 hE e).mono (by omega))
theorem pr_table (H : Both A B hp) (I : Inv M A B) (hM : M < 900000) (hn : hp.2.1 < 1000000) (v1 : Int32) : Pr (ia_P0 L xs fm) (d + 150) 11026 12067 [.int v1] (M + 1000) hp := by
  obtain ⟨nj, nh, nt, I⟩ := I
  exact pr_of (fC := (fun S => f_X11_table v1 S)) (fR := (fun S => f_X12_table v1 S)) (gdT_0 L xs fm) H rfl (op_table I hM v1) (fun R hE e => (w_X11_table (L := L) (xs := xs) (fm := fm) H.2.2.2.2 (Nat.le_of_lt hn) 0 hE e).mono (by omega)) (fun h' R hE e => (w_X12_table (L := L) (xs := xs) (fm := fm) H.2.2.2.2 (Nat.le_of_lt hn) 0 hE e).mono (by omega))
theorem pr_turn (H : Both A B hp) (I : Inv M A B) (hM : M < 900000) (hn : hp.2.1 < 1000000) (v1 : Int32) (v2 : Int32) (v3 : Int32) : Pr (ia_P0 L xs fm) (d + 150) 11018 12052 [.int v1, .int v2, .int v3] (M + 1000) hp := by
  obtain ⟨nj, nh, nt, I⟩ := I
  exact pr_of (fC := (fun S => f_X11_turn v1 v2 v3 S)) (fR := (fun S => f_X12_turn v1 v2 v3 S)) (gdT_0 L xs fm) H rfl (op_turn I hM v1 v2 v3) (fun R hE e => (w_X11_turn (L := L) (xs := xs) (fm := fm) H.2.2.2.2 (Nat.le_of_lt hn) 0 hE e).mono (by omega)) (fun h' R hE e => (w_X12_turn (L := L) (xs := xs) (fm := fm) H.2.2.2.2 (Nat.le_of_lt hn) 0 hE e).mono (by omega))
theorem pr_shut (H : Both A B hp) (I : Inv M A B) (hM : M < 900000) (hn : hp.2.1 < 1000000) (v1 : Int32) : Pr (ia_P0 L xs fm) (d + 150) 11025 12066 [.int v1] (M + 1000) hp := by
  obtain ⟨nj, nh, nt, I⟩ := I
  exact pr_of (fC := (fun S => f_X11_shut v1 S)) (fR := (fun S => f_X12_shut v1 S)) (gdT_0 L xs fm) H rfl (op_shut I hM v1) (fun R hE e => (w_X11_shut (L := L) (xs := xs) (fm := fm) H.2.2.2.2 (Nat.le_of_lt hn) 0 hE e).mono (by omega)) (fun h' R hE e => (w_X12_shut (L := L) (xs := xs) (fm := fm) H.2.2.2.2 (Nat.le_of_lt hn) 0 hE e).mono (by omega))
theorem pr_undo (H : Both A B hp) (I : Inv M A B) (hM : M < 900000) (hn : hp.2.1 < 1000000)  : Pr (ia_P0 L xs fm) (d + 150) 11027 12068 [] (M + 1000) hp := by
  obtain ⟨nj, nh, nt, I⟩ := I
  exact pr_of (fC := (fun S => f_X11_undo S)) (fR := (fun S => f_X12_undo S)) (gdT_0 L xs fm) H rfl (op_undo I hM) (fun R hE e => (w_X11_undo (L := L) (xs := xs) (fm := fm) H.2.2.2.2 (Nat.le_of_lt hn) 0 hE e).mono (by omega)) (fun h' R hE e => (w_X12_undo (L := L) (xs := xs) (fm := fm) H.2.2.2.2 (Nat.le_of_lt hn) 0 hE e).mono (by omega))
theorem pr_image (H : Both A B hp) (I : Inv M A B) (hM : M < 900000) (hn : hp.2.1 < 1000000)  : Pr (ia_P0 L xs fm) (d + 150) 11055 12108 [] (M + 1000) hp := by
  obtain ⟨nj, nh, nt, I⟩ := I
  exact pr_of (fC := (fun S => f_X11_image S)) (fR := (fun S => f_X12_image S)) (gdT_0 L xs fm) H rfl (op_image I hM) (fun R hE e => (w_X11_image (L := L) (xs := xs) (fm := fm) H.2.2.2.2 (Nat.le_of_lt hn) 0 hE e).mono (by omega)) (fun h' R hE e => (w_X12_image (L := L) (xs := xs) (fm := fm) H.2.2.2.2 (Nat.le_of_lt hn) 0 hE e).mono (by omega))
theorem pr_back (H : Both A B hp) (I : Inv M A B) (hM : M < 900000) (hn : hp.2.1 < 1000000)  : Pr (ia_P0 L xs fm) (d + 150) 11056 12109 [] (M + 1000) hp := by
  obtain ⟨nj, nh, nt, I⟩ := I
  exact pr_of (fC := (fun S => f_X11_back S)) (fR := (fun S => f_X12_back S)) (gdT_0 L xs fm) H rfl (op_back I hM) (fun R hE e => (w_X11_back (L := L) (xs := xs) (fm := fm) H.2.2.2.2 (Nat.le_of_lt hn) 0 hE e).mono (by omega)) (fun h' R hE e => (w_X12_back (L := L) (xs := xs) (fm := fm) H.2.2.2.2 (Nat.le_of_lt hn) 0 hE e).mono (by omega))
theorem pr_log (H : Both A B hp) (I : Inv M A B) (hM : M < 900000) (hn : hp.2.1 < 1000000) (v1 : Int32) (v2 : Int32) : Pr (ia_P0 L xs fm) (d + 150) 11054 12069 [.int v1, .int v2] (M + 1000) hp := by
  obtain ⟨nj, nh, nt, I⟩ := I
  exact pr_of (fC := (fun S => f_X11_log v1 v2 S)) (fR := (fun S => f_X12_log v1 v2 S)) (gdT_0 L xs fm) H rfl (op_log I hM v1 v2) (fun R hE e => (w_X11_log (L := L) (xs := xs) (fm := fm) H.2.2.2.2 (Nat.le_of_lt hn) 0 hE e).mono (by omega)) (fun h' R hE e => (w_X12_log (L := L) (xs := xs) (fm := fm) H.2.2.2.2 (Nat.le_of_lt hn) 0 hE e).mono (by omega))
theorem pr_grip (H : Both A B hp) (I : Inv M A B) (hM : M < 900000) (hn : hp.2.1 < 1000000) (v1 : Int32) (v2 : Int32) (v3 : Int32) : Pr (ia_P0 L xs fm) (d + 150) 11015 12047 [.int v1, .int v2, .int v3] (M + 1000) hp := by
  obtain ⟨nj, nh, nt, I⟩ := I
  exact pr_of (fC := (fun S => f_X11_grip v1 v2 v3 S)) (fR := (fun S => f_X12_grip v1 v2 v3 S)) (gdT_0 L xs fm) H rfl (op_grip I hM v1 v2 v3) (fun R hE e => (w_X11_grip (L := L) (xs := xs) (fm := fm) H.2.2.2.2 (Nat.le_of_lt hn) 0 hE e).mono (by omega)) (fun h' R hE e => (w_X12_grip (L := L) (xs := xs) (fm := fm) H.2.2.2.2 (Nat.le_of_lt hn) 0 hE e).mono (by omega))
theorem pr_lacks (H : Both A B hp) (I : Inv M A B) (hM : M < 900000) (hn : hp.2.1 < 1000000) (v1 : Int32) (v2 : Int32) (v3 : Int32) : Pr (ia_P0 L xs fm) (d + 150) 11017 12051 [.int v1, .int v2, .int v3] (M + 1000) hp := by
  obtain ⟨nj, nh, nt, I⟩ := I
  exact pr_of (fC := (fun S => f_X11_lacks v1 v2 v3 S)) (fR := (fun S => f_X12_lacks v1 v2 v3 S)) (gdT_0 L xs fm) H rfl (op_lacks I hM v1 v2 v3) (fun R hE e => (w_X11_lacks (L := L) (xs := xs) (fm := fm) H.2.2.2.2 (Nat.le_of_lt hn) 0 hE e).mono (by omega)) (fun h' R hE e => (w_X12_lacks (L := L) (xs := xs) (fm := fm) H.2.2.2.2 (Nat.le_of_lt hn) 0 hE e).mono (by omega))
theorem pr_safe (H : Both A B hp) (I : Inv M A B) (hM : M < 900000) (hn : hp.2.1 < 1000000)  : Pr (ia_P0 L xs fm) (d + 150) 11037 12090 [] (M + 1000) hp := by
  obtain ⟨nj, nh, nt, I⟩ := I
  exact pr_of (fC := (fun S => f_X11_safe S)) (fR := (fun S => f_X12_safe S)) (gdT_0 L xs fm) H rfl (op_safe I hM) (fun R hE e => (w_X11_safe (L := L) (xs := xs) (fm := fm) H.2.2.2.2 (Nat.le_of_lt hn) 0 hE e).mono (by omega)) (fun h' R hE e => (w_X12_safe (L := L) (xs := xs) (fm := fm) H.2.2.2.2 (Nat.le_of_lt hn) 0 hE e).mono (by omega))
theorem pr_hand (H : Both A B hp) (I : Inv M A B) (hM : M < 900000) (hn : hp.2.1 < 1000000) (v1 : Int32) (v2 : Int32) : Pr (ia_P0 L xs fm) (d + 150) 11008 12042 [.int v1, .int v2] (M + 1000) hp := by
  obtain ⟨nj, nh, nt, I⟩ := I
  exact pr_of (fC := (fun S => f_X11_hand v1 v2 S)) (fR := (fun S => f_X12_hand v1 v2 S)) (gdT_0 L xs fm) H rfl (op_hand I hM v1 v2) (fun R hE e => (w_X11_hand (L := L) (xs := xs) (fm := fm) H.2.2.2.2 (Nat.le_of_lt hn) 0 hE e).mono (by omega)) (fun h' R hE e => (w_X12_hand (L := L) (xs := xs) (fm := fm) H.2.2.2.2 (Nat.le_of_lt hn) 0 hE e).mono (by omega))
theorem pr_tool (H : Both A B hp) (I : Inv M A B) (hM : M < 900000) (hn : hp.2.1 < 1000000) (v1 : Int32) (v2 : Int32) : Pr (ia_P0 L xs fm) (d + 150) 11010 12044 [.int v1, .int v2] (M + 1000) hp := by
  obtain ⟨nj, nh, nt, I⟩ := I
  exact pr_of (fC := (fun S => f_X11_tool v1 v2 S)) (fR := (fun S => f_X12_tool v1 v2 S)) (gdT_0 L xs fm) H rfl (op_tool I hM v1 v2) (fun R hE e => (w_X11_tool (L := L) (xs := xs) (fm := fm) H.2.2.2.2 (Nat.le_of_lt hn) 0 hE e).mono (by omega)) (fun h' R hE e => (w_X12_tool (L := L) (xs := xs) (fm := fm) H.2.2.2.2 (Nat.le_of_lt hn) 0 hE e).mono (by omega))
theorem pr_law (H : Both A B hp) (I : Inv M A B) (hM : M < 900000) (hn : hp.2.1 < 1000000) (v1 : Int32) : Pr (ia_P0 L xs fm) (d + 150) 11012 12045 [.int v1] (M + 1000) hp := by
  obtain ⟨nj, nh, nt, I⟩ := I
  exact pr_of (fC := (fun S => f_X11_law v1 S)) (fR := (fun S => f_X12_law v1 S)) (gdT_0 L xs fm) H rfl (op_law I hM v1) (fun R hE e => (w_X11_law (L := L) (xs := xs) (fm := fm) H.2.2.2.2 (Nat.le_of_lt hn) 0 hE e).mono (by omega)) (fun h' R hE e => (w_X12_law (L := L) (xs := xs) (fm := fm) H.2.2.2.2 (Nat.le_of_lt hn) 0 hE e).mono (by omega))
theorem pr_step (H : Both A B hp) (I : Inv M A B) (hM : M < 900000) (hn : hp.2.1 < 1000000) (v1 : Int32) (v2 : Int32) : Pr (ia_P0 L xs fm) (d + 150) 11013 12046 [.int v1, .int v2] (M + 1000) hp := by
  obtain ⟨nj, nh, nt, I⟩ := I
  exact pr_of (fC := (fun S => f_X11_step v1 v2 S)) (fR := (fun S => f_X12_step v1 v2 S)) (gdT_0 L xs fm) H rfl (op_step I hM v1 v2) (fun R hE e => (w_X11_step (L := L) (xs := xs) (fm := fm) H.2.2.2.2 (Nat.le_of_lt hn) 0 hE e).mono (by omega)) (fun h' R hE e => (w_X12_step (L := L) (xs := xs) (fm := fm) H.2.2.2.2 (Nat.le_of_lt hn) 0 hE e).mono (by omega))
theorem pr_end (H : Both A B hp) (I : Inv M A B) (hM : M < 900000) (hn : hp.2.1 < 1000000) (v1 : Int32) : Pr (ia_P0 L xs fm) (d + 150) 11002 12005 [.int v1] (M + 1000) hp := by
  obtain ⟨nj, nh, nt, I⟩ := I
  exact pr_of (fC := (fun S => f_X11_end v1 S)) (fR := (fun S => f_X12_end v1 S)) (gdT_0 L xs fm) H rfl (op_end I hM v1) (fun R hE e => (w_X11_end (L := L) (xs := xs) (fm := fm) H.2.2.2.2 (Nat.le_of_lt hn) 0 hE e).mono (by omega)) (fun h' R hE e => (w_X12_end (L := L) (xs := xs) (fm := fm) H.2.2.2.2 (Nat.le_of_lt hn) 0 hE e).mono (by omega))
theorem pr_next (H : Both A B hp) (I : Inv M A B) (hM : M < 900000) (hn : hp.2.1 < 1000000) (v1 : Int32) : Pr (ia_P0 L xs fm) (d + 150) 11048 12103 [.int v1] (M + 1000) hp := by
  obtain ⟨nj, nh, nt, I⟩ := I
  exact pr_of (fC := (fun S => f_X11_next v1 S)) (fR := (fun S => f_X12_next v1 S)) (gdT_0 L xs fm) H rfl (op_next I hM v1) (fun R hE e => (w_X11_next (L := L) (xs := xs) (fm := fm) H.2.2.2.2 (Nat.le_of_lt hn) 0 hE e).mono (by omega)) (fun h' R hE e => (w_X12_next (L := L) (xs := xs) (fm := fm) H.2.2.2.2 (Nat.le_of_lt hn) 0 hE e).mono (by omega))
theorem pr_tight (H : Both A B hp) (I : Inv M A B) (hM : M < 900000) (hn : hp.2.1 < 1000000) (v1 : Int32) : Pr (ia_P0 L xs fm) (d + 150) 11047 12101 [.int v1] (M + 1000) hp := by
  obtain ⟨nj, nh, nt, I⟩ := I
  exact pr_of (fC := (fun S => f_X11_tight v1 S)) (fR := (fun S => f_X12_tight v1 S)) (gdT_0 L xs fm) H rfl (op_tight I hM v1) (fun R hE e => (w_X11_tight (L := L) (xs := xs) (fm := fm) H.2.2.2.2 (Nat.le_of_lt hn) 0 hE e).mono (by omega)) (fun h' R hE e => (w_X12_tight (L := L) (xs := xs) (fm := fm) H.2.2.2.2 (Nat.le_of_lt hn) 0 hE e).mono (by omega))
theorem pr_forgive (H : Both A B hp) (I : Inv M A B) (hM : M < 900000) (hn : hp.2.1 < 1000000)  : Pr (ia_P0 L xs fm) (d + 150) 11046 12100 [] (M + 1000) hp := by
  obtain ⟨nj, nh, nt, I⟩ := I
  exact pr_of (fC := (fun S => f_X11_forgive S)) (fR := (fun S => f_X12_forgive S)) (gdT_0 L xs fm) H rfl (op_forgive I hM) (fun R hE e => (w_X11_forgive (L := L) (xs := xs) (fm := fm) H.2.2.2.2 (Nat.le_of_lt hn) 0 hE e).mono (by omega)) (fun h' R hE e => (w_X12_forgive (L := L) (xs := xs) (fm := fm) H.2.2.2.2 (Nat.le_of_lt hn) 0 hE e).mono (by omega))
theorem pr_tried (H : Both A B hp) (I : Inv M A B) (hM : M < 900000) (hn : hp.2.1 < 1000000) (v1 : Int32) (v2 : Int32) (hv2 : v2 = 0 ∨ v2 = 1) : Pr (ia_P0 L xs fm) (d + 150) 11045 12099 [.int v1, .int v2] (M + 1000) hp := by
  obtain ⟨nj, nh, nt, I⟩ := I
  exact pr_of (fC := (fun S => f_X11_tried v1 v2 S)) (fR := (fun S => f_X12_tried v1 v2 S)) (gdT_0 L xs fm) H rfl (op_tried I hM v1 v2 hv2) (fun R hE e => (w_X11_tried (L := L) (xs := xs) (fm := fm) H.2.2.2.2 (Nat.le_of_lt hn) 0 hE e).mono (by omega)) (fun h' R hE e => (w_X12_tried (L := L) (xs := xs) (fm := fm) H.2.2.2.2 (Nat.le_of_lt hn) 0 hE e).mono (by omega))
theorem pr_count (H : Both A B hp) (I : Inv M A B) (hM : M < 900000) (hn : hp.2.1 < 1000000) (v1 : Int32) : Pr (ia_P0 L xs fm) (d + 150) 11057 12110 [.int v1] (M + 1000) hp := by
  obtain ⟨nj, nh, nt, I⟩ := I
  exact pr_of (fC := (fun S => f_X11_count v1 S)) (fR := (fun S => f_X12_count v1 S)) (gdT_0 L xs fm) H rfl (op_count I hM v1) (fun R hE e => (w_X11_count (L := L) (xs := xs) (fm := fm) H.2.2.2.2 (Nat.le_of_lt hn) 0 hE e).mono (by omega)) (fun h' R hE e => (w_X12_count (L := L) (xs := xs) (fm := fm) H.2.2.2.2 (Nat.le_of_lt hn) 0 hE e).mono (by omega))
theorem pr_who (H : Both A B hp) (I : Inv M A B) (hM : M < 900000) (hn : hp.2.1 < 1000000) (v1 : Int32) (v2 : Int32) : Pr (ia_P0 L xs fm) (d + 150) 11049 12104 [.int v1, .int v2] (M + 1000) hp := by
  obtain ⟨nj, nh, nt, I⟩ := I
  exact pr_of (fC := (fun S => f_X11_who v1 v2 S)) (fR := (fun S => f_X12_who v1 v2 S)) (gdT_0 L xs fm) H rfl (op_who I hM v1 v2) (fun R hE e => (w_X11_who (L := L) (xs := xs) (fm := fm) H.2.2.2.2 (Nat.le_of_lt hn) 0 hE e).mono (by omega)) (fun h' R hE e => (w_X12_who (L := L) (xs := xs) (fm := fm) H.2.2.2.2 (Nat.le_of_lt hn) 0 hE e).mono (by omega))
theorem pr_lefties (H : Both A B hp) (I : Inv M A B) (hM : M < 900000) (hn : hp.2.1 < 1000000)  : Pr (ia_P0 L xs fm) (d + 150) 11050 12105 [] (M + 1000) hp := by
  obtain ⟨nj, nh, nt, I⟩ := I
  exact pr_of (fC := (fun S => f_X11_lefties S)) (fR := (fun S => f_X12_lefties S)) (gdT_0 L xs fm) H rfl (op_lefties I hM) (fun R hE e => (w_X11_lefties (L := L) (xs := xs) (fm := fm) H.2.2.2.2 (Nat.le_of_lt hn) 0 hE e).mono (by omega)) (fun h' R hE e => (w_X12_lefties (L := L) (xs := xs) (fm := fm) H.2.2.2.2 (Nat.le_of_lt hn) 0 hE e).mono (by omega))
theorem pr_perform (H : Both A B hp) (I : Inv M A B) (hM : M < 900000) (hn : hp.2.1 < 1000000) (v1 : Int32) : Pr (ia_P0 L xs fm) (d + 150) 11053 12083 [.int v1] (M + 1000) hp := by
  obtain ⟨nj, nh, nt, I⟩ := I
  exact pr_of (fC := (fun S => f_X11_perform v1 S)) (fR := (fun S => f_X12_perform v1 S)) (gdT_0 L xs fm) H rfl (op_perform I hM v1) (fun R hE e => (w_X11_perform (L := L) (xs := xs) (fm := fm) H.2.2.2.2 (Nat.le_of_lt hn) 0 hE e).mono (by omega)) (fun h' R hE e => (w_X12_perform (L := L) (xs := xs) (fm := fm) H.2.2.2.2 (Nat.le_of_lt hn) 0 hE e).mono (by omega))
theorem pr_evening (H : Both A B hp) (I : Inv M A B) (hM : M < 900000) (hn : hp.2.1 < 1000000) (v1 : Int32) (v2 : Int64) : Pr (ia_P0 L xs fm) (d + 150) 11051 12106 [.int v1, .long v2] (M + 1000) hp := by
  obtain ⟨nj, nh, nt, I⟩ := I
  exact pr_of (fC := (fun S => f_X11_evening v1 v2 S)) (fR := (fun S => f_X12_evening v1 v2 S)) (gdT_0 L xs fm) H rfl (op_evening I hM v1 v2) (fun R hE e => (w_X11_evening (L := L) (xs := xs) (fm := fm) H.2.2.2.2 (Nat.le_of_lt hn) 0 hE e).mono (by omega)) (fun h' R hE e => (w_X12_evening (L := L) (xs := xs) (fm := fm) H.2.2.2.2 (Nat.le_of_lt hn) 0 hE e).mono (by omega))
theorem pr_run (H : Both A B hp) (I : Inv M A B) (hM : M < 900000) (hn : hp.2.1 < 1000000) (v1 : Int32) (v2 : Int32) : Pr (ia_P0 L xs fm) (d + 150) 11030 12080 [.int v1, .int v2] (M + 1000) hp := by
  obtain ⟨nj, nh, nt, I⟩ := I
  exact pr_of (fC := (fun S => f_X11_run v1 v2 S)) (fR := (fun S => f_X12_run v1 v2 S)) (gdT_0 L xs fm) H rfl (op_run I hM v1 v2) (fun R hE e => (w_X11_run (L := L) (xs := xs) (fm := fm) H.2.2.2.2 (Nat.le_of_lt hn) 0 hE e).mono (by omega)) (fun h' R hE e => (w_X12_run (L := L) (xs := xs) (fm := fm) H.2.2.2.2 (Nat.le_of_lt hn) 0 hE e).mono (by omega))
theorem pr_best (H : Both A B hp) (I : Inv M A B) (hM : M < 900000) (hn : hp.2.1 < 1000000) (v1 : Int32) : Pr (ia_P0 L xs fm) (d + 150) 11032 12082 [.int v1] (M + 1000) hp := by
  obtain ⟨nj, nh, nt, I⟩ := I
  exact pr_of (fC := (fun S => f_X11_best v1 S)) (fR := (fun S => f_X12_best v1 S)) (gdT_0 L xs fm) H rfl (op_best I hM v1) (fun R hE e => (w_X11_best (L := L) (xs := xs) (fm := fm) H.2.2.2.2 (Nat.le_of_lt hn) 0 hE e).mono (by omega)) (fun h' R hE e => (w_X12_best (L := L) (xs := xs) (fm := fm) H.2.2.2.2 (Nat.le_of_lt hn) 0 hE e).mono (by omega))
theorem pr_cheapest (H : Both A B hp) (I : Inv M A B) (hM : M < 900000) (hn : hp.2.1 < 1000000) (v1 : Int32) : Pr (ia_P0 L xs fm) (d + 150) 11036 12088 [.int v1] (M + 1000) hp := by
  obtain ⟨nj, nh, nt, I⟩ := I
  exact pr_of (fC := (fun S => f_X11_cheapest v1 S)) (fR := (fun S => f_X12_cheapest v1 S)) (gdT_0 L xs fm) H rfl (op_cheapest I hM v1) (fun R hE e => (w_X11_cheapest (L := L) (xs := xs) (fm := fm) H.2.2.2.2 (Nat.le_of_lt hn) 0 hE e).mono (by omega)) (fun h' R hE e => (w_X12_cheapest (L := L) (xs := xs) (fm := fm) H.2.2.2.2 (Nat.le_of_lt hn) 0 hE e).mono (by omega))
theorem pr_enough (H : Both A B hp) (I : Inv M A B) (hM : M < 900000) (hn : hp.2.1 < 1000000) (v1 : Int32) (v2 : Int32) : Pr (ia_P0 L xs fm) (d + 150) 11038 12091 [.int v1, .int v2] (M + 1000) hp := by
  obtain ⟨nj, nh, nt, I⟩ := I
  exact pr_of (fC := (fun S => f_X11_enough v1 v2 S)) (fR := (fun S => f_X12_enough v1 v2 S)) (gdT_0 L xs fm) H rfl (op_enough I hM v1 v2) (fun R hE e => (w_X11_enough (L := L) (xs := xs) (fm := fm) H.2.2.2.2 (Nat.le_of_lt hn) 0 hE e).mono (by omega)) (fun h' R hE e => (w_X12_enough (L := L) (xs := xs) (fm := fm) H.2.2.2.2 (Nat.le_of_lt hn) 0 hE e).mono (by omega))
theorem pr_openers (H : Both A B hp) (I : Inv M A B) (hM : M < 900000) (hn : hp.2.1 < 1000000) (v1 : Int32) (v2 : Int32) : Pr (ia_P0 L xs fm) (d + 150) 11042 12096 [.int v1, .int v2] (M + 1000) hp := by
  obtain ⟨nj, nh, nt, I⟩ := I
  exact pr_of (fC := (fun S => f_X11_openers v1 v2 S)) (fR := (fun S => f_X12_openers v1 v2 S)) (gdT_0 L xs fm) H rfl (op_openers I hM v1 v2) (fun R hE e => (w_X11_openers (L := L) (xs := xs) (fm := fm) H.2.2.2.2 (Nat.le_of_lt hn) 0 hE e).mono (by omega)) (fun h' R hE e => (w_X12_openers (L := L) (xs := xs) (fm := fm) H.2.2.2.2 (Nat.le_of_lt hn) 0 hE e).mono (by omega))
theorem pr_factory (H : Both A B hp) (I : Inv M A B) (hM : M < 900000) (hn : hp.2.1 < 1000000) (v1 : Int32) (v2 : Int32) (v3 : Int32) : Pr (ia_P0 L xs fm) (d + 150) 11044 12098 [.int v1, .int v2, .int v3] (M + 1000) hp := by
  obtain ⟨nj, nh, nt, I⟩ := I
  exact pr_of (fC := (fun S => f_X11_factory v1 v2 v3 S)) (fR := (fun S => f_X12_factory v1 v2 v3 S)) (gdT_0 L xs fm) H rfl (op_factory I hM v1 v2 v3) (fun R hE e => (w_X11_factory (L := L) (xs := xs) (fm := fm) H.2.2.2.2 (Nat.le_of_lt hn) 0 hE e).mono (by omega)) (fun h' R hE e => (w_X12_factory (L := L) (xs := xs) (fm := fm) H.2.2.2.2 (Nat.le_of_lt hn) 0 hE e).mono (by omega))
theorem pr_opens (H : Both A B hp) (I : Inv M A B) (hM : M < 900000) (hn : hp.2.1 < 1000000) (v1 : Int32) : Pr (ia_P0 L xs fm) (d + 150) 11034 12084 [.int v1] (M + 1000) hp := by
  obtain ⟨nj, nh, nt, I⟩ := I
  exact pr_of (fC := (fun S => f_X11_opens v1 S)) (fR := (fun S => f_X12_opens v1 S)) (gdT_0 L xs fm) H rfl (op_opens I hM v1) (fun R hE e => (w_X11_opens (L := L) (xs := xs) (fm := fm) H.2.2.2.2 (Nat.le_of_lt hn) 0 hE e).mono (by omega)) (fun h' R hE e => (w_X12_opens (L := L) (xs := xs) (fm := fm) H.2.2.2.2 (Nat.le_of_lt hn) 0 hE e).mono (by omega))
theorem pr_share (H : Both A B hp) (I : Inv M A B) (hM : M < 900000) (hn : hp.2.1 < 1000000) (v1 : Int32) : Pr (ia_P0 L xs fm) (d + 150) 11035 12086 [.int v1] (M + 1000) hp := by
  obtain ⟨nj, nh, nt, I⟩ := I
  exact pr_of (fC := (fun S => f_X11_share v1 S)) (fR := (fun S => f_X12_share v1 S)) (gdT_0 L xs fm) H rfl (op_share I hM v1) (fun R hE e => (w_X11_share (L := L) (xs := xs) (fm := fm) H.2.2.2.2 (Nat.le_of_lt hn) 0 hE e).mono (by omega)) (fun h' R hE e => (w_X12_share (L := L) (xs := xs) (fm := fm) H.2.2.2.2 (Nat.le_of_lt hn) 0 hE e).mono (by omega))
theorem pr_saves (H : Both A B hp) (I : Inv M A B) (hM : M < 900000) (hn : hp.2.1 < 1000000) (v1 : Int32) (v2 : Int32) : Pr (ia_P0 L xs fm) (d + 150) 11039 12092 [.int v1, .int v2] (M + 1000) hp := by
  obtain ⟨nj, nh, nt, I⟩ := I
  exact pr_of (fC := (fun S => f_X11_saves v1 v2 S)) (fR := (fun S => f_X12_saves v1 v2 S)) (gdT_0 L xs fm) H rfl (op_saves I hM v1 v2) (fun R hE e => (w_X11_saves (L := L) (xs := xs) (fm := fm) H.2.2.2.2 (Nat.le_of_lt hn) 0 hE e).mono (by omega)) (fun h' R hE e => (w_X12_saves (L := L) (xs := xs) (fm := fm) H.2.2.2.2 (Nat.le_of_lt hn) 0 hE e).mono (by omega))
theorem pr_order (H : Both A B hp) (I : Inv M A B) (hM : M < 900000) (hn : hp.2.1 < 1000000) (v1 : Int32) : Pr (ia_P0 L xs fm) (d + 150) 11029 12076 [.int v1] (M + 1000) hp := by
  obtain ⟨nj, nh, nt, I⟩ := I
  exact pr_of (fC := (fun S => f_X11_order v1 S)) (fR := (fun S => f_X12_order v1 S)) (gdT_0 L xs fm) H rfl (op_order I hM v1) (fun R hE e => (w_X11_order (L := L) (xs := xs) (fm := fm) H.2.2.2.2 (Nat.le_of_lt hn) 0 hE e).mono (by omega)) (fun h' R hE e => (w_X12_order (L := L) (xs := xs) (fm := fm) H.2.2.2.2 (Nat.le_of_lt hn) 0 hE e).mono (by omega))
theorem pr_feed (H : Both A B hp) (I : Inv M A B) (hM : M < 900000) (hn : hp.2.1 < 1000000) (v1 : Int32) (v2 : Int32) (v3 : Int32) (v4 : Int32) (v5 : Int32) : Pr (ia_P0 L xs fm) (d + 150) 11001 12002 [.int v1, .int v2, .int v3, .int v4, .int v5] (M + 1000) hp := by
  obtain ⟨nj, nh, nt, I⟩ := I
  exact pr_of (fC := (fun S => f_X11_feed v1 v2 v3 v4 v5 S)) (fR := (fun S => f_X12_feed v1 v2 v3 v4 v5 S)) (gdT_0 L xs fm) H rfl (op_feed I hM v1 v2 v3 v4 v5) (fun R hE e => (w_X11_feed (L := L) (xs := xs) (fm := fm) H.2.2.2.2 (Nat.le_of_lt hn) 0 hE e).mono (by omega)) (fun h' R hE e => (w_X12_feed (L := L) (xs := xs) (fm := fm) H.2.2.2.2 (Nat.le_of_lt hn) 0 hE e).mono (by omega))
theorem pr_fault (H : Both A B hp) (I : Inv M A B) (hM : M < 900000) (hn : hp.2.1 < 1000000) (v1 : Int32) : Pr (ia_P0 L xs fm) (d + 150) 11003 12006 [.int v1] (M + 1000) hp := by
  obtain ⟨nj, nh, nt, I⟩ := I
  exact pr_of (fC := (fun S => f_X11_fault v1 S)) (fR := (fun S => f_X12_fault v1 S)) (gdT_0 L xs fm) H rfl (op_fault I v1) (fun R hE e => (w_X11_fault (L := L) (xs := xs) (fm := fm) H.2.2.2.2 (Nat.le_of_lt hn) 0 hE e).mono (by omega)) (fun h' R hE e => (w_X12_fault (L := L) (xs := xs) (fm := fm) H.2.2.2.2 (Nat.le_of_lt hn) 0 hE e).mono (by omega))
theorem pr_soonest (H : Both A B hp) (I : Inv M A B) (hM : M < 900000) (hn : hp.2.1 < 1000000) (v1 : Int32) (v2 : Int32) (v3 : Int32) : Pr (ia_P0 L xs fm) (d + 150) 11028 12070 [.int v1, .int v2, .int v3] (M + 1000) hp := by
  obtain ⟨nj, nh, nt, I⟩ := I
  exact pr_of (fC := (fun S => f_X11_soonest v1 v2 v3 S)) (fR := (fun S => f_X12_soonest v1 v2 v3 S)) (gdT_0 L xs fm) H rfl (op_soonest I hM v1 v2 v3) (fun R hE e => (w_X11_soonest (L := L) (xs := xs) (fm := fm) H.2.2.2.2 (Nat.le_of_lt hn) 0 hE e).mono (by omega)) (fun h' R hE e => (w_X12_soonest (L := L) (xs := xs) (fm := fm) H.2.2.2.2 (Nat.le_of_lt hn) 0 hE e).mono (by omega))
end NE
