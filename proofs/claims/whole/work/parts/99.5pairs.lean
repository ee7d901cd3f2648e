/-! all rules with all rules -/
def GIv (BS : Bk) (st fs : Nat) (wcS wmS : Wd) (B : Bk) (k : Nat) (wc wm : Wd) : Prop := Ext BS B ∧ GB B ∧ RB B wc ∧ RM B wm ∧ Rw B fs k wc wm ∧ Fr glS glA wcS wc ∧ Fr mtS mtA wmS wm ∧ Old st wcS wc
def GFv (BS : Bk) (st : Nat) (wcS wmS wc wm : Wd) : Prop := (∃ B2, GB B2 ∧ Ext BS B2 ∧ RB B2 wc) ∧ Fr glS glA wcS wc ∧ Old st wcS wc ∧ OvB BS wm ∧ Fr mtS mtA wmS wm
/-- what stays while rules are told -/
def KS (BS : Bk) (R : Ru) (st fs : Nat) (wcS wmS : Wd) : Prop := GB BS ∧ GR BS R ∧ RRc R wcS ∧ RRm R wmS ∧ sI wcS 18 = nI fs ∧ (st = 0 ∧ fs = 60 ∨ st = 60 ∧ fs = 0)
theorem SI.p19 {B : Bk} {R : Ru} {i : Nat} {s : Sht} {le n1 yri : Nat} {w : Wd} {v : Int32} (G : GB B) (ht : R.2.1 i < nB B) (h : SI B R i s le n1 yri w) : SI B R i s le n1 yri (pI w 19 v) := by
  obtain ⟨i1, i2, i3, i4, i5, i6, i7, i8, i9, i10, i11⟩ := h
  exact ⟨i1.pi, PL.agr G (lo := 8) (hi := 8 + cs B (R.2.1 i)) (Agr.pi (Agr.rf s w)) 30 8 _ _ ht (Nat.le_refl _) (Nat.le_refl _) i2, i3, i4, i5, i6, i7, i8, i9, i10, i11⟩
theorem SI.next {B B2 : Bk} {R : Ru} {i : Nat} {s s2 : Sht} {le n1 n0 yri : Nat} {w w1 w2 : Wd} (G : GB B) (G2 : GB B2) (gr : GR B R) (hi : i < R.1) (e : Ext B B2) (h : SI B R i s le n1 yri w) (ag : Agr 8 n1 s s2 w w1) (hn : n1 ≤ n0) (sw1 : SW B s2 n0 w1) (sw2 : SW B s2 n0 w2) (f : Fr tlS tlA w1 w2) (e6 : sI w1 6 = sI w 6) (e7 : sI w1 7 = sI w 7) : SI B2 R i s le n1 yri w2 := by
  obtain ⟨i1, i2, i3, i4, i5, i6, i7, i8, i9, i10, i11⟩ := h
  have vt := gr.vt (m := 0) hi (Or.inl rfl)
  have a2 : Agr 8 n1 s s w w2 := fun x x8 hx => by
    obtain ⟨b1, b2, b3, b4, b5, b6, b7, b8, b9, b10, b11⟩ := ag x x8 hx
    obtain ⟨_, _, _, _, _, _, c7, c8, c9, _⟩ := sw1 x x8 (by omega)
    obtain ⟨_, _, _, _, _, _, d7, d8, d9, _⟩ := sw2 x x8 (by omega)
    refine ⟨rfl, rfl, rfl, rfl, ?_, ?_, ?_, ?_, ?_, ?_, ?_⟩
    · rw [d7, ← c7]; exact b5
    · rw [d8, ← c8]; exact b6
    · rw [d9, ← c9]; exact b7
    · rw [(f.2 53 rfl).1]; exact b8
    · rw [(f.2 54 rfl).1]; exact b9
    · rw [(f.2 55 rfl).2]; exact b10
    · rw [(f.2 56 rfl).1]; exact b11
  have cl := cs_ext G G2 e (R.2.1 i + 1) (R.2.1 i) (by omega) vt.1.1
  have cr := cs_ext G G2 e (R.2.2.1 i + 1) (R.2.2.1 i) (by omega) vt.2.1
  refine ⟨?_, ?_, ?_, i4, i5, by rw [f.1 6 rfl, e6]; exact i6, by rw [f.1 7 rfl, e7]; exact i7, by rw [cl]; exact i8, by rw [cr]; exact i9, i10, i11⟩
  · have : SW B s n1 w2 := fun x x8 hx => (i1 x x8 hx).agr ⟨x8, hx⟩ a2
    exact this.ext G e
  · exact PL.ext G G2 e _ _ _ _ vt.1.1 (PL.agr G (lo := 8) (hi := n1) a2 30 8 _ _ vt.1.1 (Nat.le_refl _) (by omega) i2)
  · unfold Chd
    rw [(e.2.2.2.2 _ vt.2.1).1]
    exact i3
theorem b2_0 {b : Bool} (h : b = false) : b2 b = 0 := by rw [h]; rfl
theorem b2_1 {b : Bool} (h : b = true) : ¬ b2 b = 0 := by rw [h]; exact i10
/-- nothing is told -/
theorem oInner {N D i : Nat} {BS : Bk} {R : Ru} {w : Wd} {x1 : Int32} {rec17 : Wd → Int32 → Int32 → Option (Wd × Int32)} (gr : GR BS R) (rr : RRm R w) (hi : i < R.1) (h : R.2.2.2 i = false ∨ OvB BS w) : ∀ r j g, R.1 - j ≤ r → j ≤ R.1 → r < g → fX11_pairs_27 N (D + 2) rec17 g w x1 (nI i) (nI j) = rec17 w x1 (nI (i + 1)) := by
  have g16 := gr.1
  intro r
  induction r with
  | zero =>
    intro j g hr hj hg
    obtain ⟨g, rfl⟩ : ∃ g2, g = g2 + 1 := ⟨g - 1, by omega⟩
    have key : fX11_pairs_27 N (D + 2) rec17 (g + 1) w x1 (nI i) (nI j) = bX11_pairs_27 N (D + 2) rec17 (fX11_pairs_27 N (D + 2) rec17 g) w x1 (nI i) (nI j) := rfl
    rw [key]
    unfold bX11_pairs_27
    rw [rr.1, if_pos (by rw [nI_leI (by omega) (by omega)]; omega)]
    simp only [c_nm]
    rw [nI_1]
  | succ r ih =>
    intro j g hr hj hg
    obtain ⟨g, rfl⟩ : ∃ g2, g = g2 + 1 := ⟨g - 1, by omega⟩
    have key : fX11_pairs_27 N (D + 2) rec17 (g + 1) w x1 (nI i) (nI j) = bX11_pairs_27 N (D + 2) rec17 (fX11_pairs_27 N (D + 2) rec17 g) w x1 (nI i) (nI j) := rfl
    rw [key]
    unfold bX11_pairs_27 bX11_pairs_66
    by_cases e : j = R.1
    · rw [rr.1, if_pos (by rw [nI_leI (by omega) (by omega)]; omega)]
      simp only [c_nm]
      rw [nI_1]
    · have nx := ih (j + 1) g (by omega) (by omega) (by omega)
      rw [rr.1, if_neg (by rw [nI_leI (by omega) (by omega)]; omega), ld_n (by omega) (by omega), (rr.2 i hi).2.2]
      simp only [c_nm]
      rw [nI_1]
      cases qi : R.2.2.2 i with
      | false =>
        rw [if_pos (b2_0 rfl)]
        exact nx
      | true =>
        have ov := h.resolve_left (by rw [qi]; decide)
        rw [if_neg (b2_1 rfl), ld_n (by omega) (by omega), (rr.2 j (by omega)).2.2]
        cases qj : R.2.2.2 j with
        | false =>
          rw [if_pos (b2_0 rfl)]
          exact nx
        | true =>
          rw [if_neg (b2_1 rfl), ld_n (by omega) (by omega), (rr.2 i hi).1, oMeet ov (gr.2 i hi).1, cv_s]
          exact nx
