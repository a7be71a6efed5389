/-! text of both sides, in one heap. -/
section NF
variable {L : Nat} {xs : Nat → Int32} {fm : Bool} {M d : Nat} {hp : ia_H} {A B : zS}
theorem pr_text (H : Both A B hp) (I : Inv M A B) (hn : hp.2.1 < 999999) (v1 : Int32) : Pr (ia_P0 L xs fm) (d + 150) 11004 12038 [.int v1] (M + 1000) hp := by
  obtain ⟨nj, nh, nt, I⟩ := I
  obtain ⟨h, t⟩ := hp
  have hn : t.1 < 999999 := hn
  have n64 : 64 ≤ t.1 := H.2.2.2.2
  obtain ⟨r, A', B', e1, e2, I'⟩ := op_text I v1
  refine ⟨r, ?_⟩
  have G := gdT_0 L xs fm
  obtain ⟨F, v, hp', c1, c2, c3, c4, c5, c6⟩ := both_t (d := d + 150) (k := 11004) G H (okS_two n64 (by omega) (as := [.int v1]) rfl) ((w_X11_text (L := L) (xs := xs) (fm := fm) (t := t) n64 (by omega) 0 H.1 H.2.2.2.1 e1).mono (by omega))
  obtain ⟨h', t'⟩ := hp'
  have n64' : 64 ≤ t'.1 := c6.2.2.2.2
  have c3 : t'.1 ≤ t.1 + 1 := c3
  have ok : t.1 ≤ t'.1 := by
    obtain ⟨-, o2, -⟩ := call_ok G _ _ _ _ _ _ H.2.2.2.1 (okS_two n64 (by omega) (as := [.int v1]) rfl) c1
    exact o2
  refine ⟨F, v, (h', t'), c1, c2, ⟨ok, c3, c4, c5⟩, ⟨_, _, c6⟩, ?_⟩
  obtain ⟨F2, v2, hp2, g1, g2, g3, g4⟩ := both_r (d := d + 150) (k := 12038) G c6 (okS_two n64' (by omega) (as := [.int v1]) rfl) ((w_X12_text (L := L) (xs := xs) (fm := fm) (t := t') n64' (by omega) 0 c6.2.1 e2).mono (by omega))
  exact ⟨F2, v2, hp2, g1, g2, g3, A', B', g4, I'⟩
end NF
