/-- one rule with all others -/
theorem tSecond {N dc dm i le n1 yri st fs : Nat} {BS : Bk} {R : Ru} {wcS wmS : Wd} {s : Sht} {x1 : Int32} {rec17 : Wd → Int32 → Int32 → Option (Wd × Int32)} (hN : 2000000 ≤ N) (ks : KS BS R st fs wcS wmS) (hi : i < R.1) (on : R.2.2.2 i = true) : ∀ r j f g B k wc wm, R.1 - j ≤ r → j ≤ R.1 → r < f → r < g → GIv BS st fs wcS wmS B k wc wm → SI B R i s le n1 yri wc →
    ∃ wc2 wm2, fX11_pairs_27 N (dm + 575) rec17 g wm x1 (nI i) (nI j) = rec17 wm2 x1 (nI (i + 1)) ∧ ((fX1_tellOfFirst_15 N (dc + 62) f wc (nI i) (nI n1) (nI j) = some (wc2, 1) ∧ ∃ B2 k2, GIv BS st fs wcS wmS B2 k2 wc2 wm2) ∨ (fX1_tellOfFirst_15 N (dc + 62) f wc (nI i) (nI n1) (nI j) = some (wc2, 0) ∧ GFv BS st wcS wmS wc2 wm2)) := by
  obtain ⟨GS, grS, rcS, rrS, s18, hst⟩ := ks
  have g16 := grS.1
  intro r
  induction r with
  | zero =>
    intro j f g B k wc wm hr hj hf hg inv si
    have inv0 := inv
    obtain ⟨ext, G, rb, rm, rw', fc, fm, od⟩ := inv
    obtain ⟨f, rfl⟩ : ∃ f2, f = f2 + 1 := ⟨f - 1, by omega⟩
    obtain ⟨g, rfl⟩ : ∃ g2, g = g2 + 1 := ⟨g - 1, by omega⟩
    have rr : RRm R wm := rrS.k fm
    have rc : RRc R wc := rcS.k fc
    have k1 : fX11_pairs_27 N (dm + 575) rec17 (g + 1) wm x1 (nI i) (nI j) = bX11_pairs_27 N (dm + 575) rec17 (fX11_pairs_27 N (dm + 575) rec17 g) wm x1 (nI i) (nI j) := rfl
    have k2 : fX1_tellOfFirst_15 N (dc + 62) (f + 1) wc (nI i) (nI n1) (nI j) = bX1_tellOfFirst_15 N (dc + 62) (fX1_tellOfFirst_15 N (dc + 62) f) wc (nI i) (nI n1) (nI j) := rfl
    refine ⟨wc, wm, ?_, Or.inl ⟨?_, B, k, inv0⟩⟩
    · rw [k1]
      unfold bX11_pairs_27
      rw [rr.1, if_pos (by rw [nI_leI (by omega) (by omega)]; omega)]
      simp only [c_nm]
      rw [nI_1]
    · rw [k2]
      unfold bX1_tellOfFirst_15
      rw [rc.1, if_pos (by rw [nI_leI (by omega) (by omega)]; omega)]
  | succ r ih =>
    intro j f g B k wc wm hr hj hf hg inv si
    have inv0 := inv
    obtain ⟨ext, G, rb, rm, rw', fc, fm, od⟩ := inv
    obtain ⟨f, rfl⟩ : ∃ f2, f = f2 + 1 := ⟨f - 1, by omega⟩
    obtain ⟨g, rfl⟩ : ∃ g2, g = g2 + 1 := ⟨g - 1, by omega⟩
    have rr : RRm R wm := rrS.k fm
    have rc : RRc R wc := rcS.k fc
    have gr := grS.ext ext
    have vti := gr.vt (m := 0) hi (Or.inl rfl)
    have k1 : fX11_pairs_27 N (dm + 575) rec17 (g + 1) wm x1 (nI i) (nI j) = bX11_pairs_27 N (dm + 575) rec17 (fX11_pairs_27 N (dm + 575) rec17 g) wm x1 (nI i) (nI j) := rfl
    have k2 : fX1_tellOfFirst_15 N (dc + 62) (f + 1) wc (nI i) (nI n1) (nI j) = bX1_tellOfFirst_15 N (dc + 62) (fX1_tellOfFirst_15 N (dc + 62) f) wc (nI i) (nI n1) (nI j) := rfl
    by_cases e : j = R.1
    · refine ⟨wc, wm, ?_, Or.inl ⟨?_, B, k, inv0⟩⟩
      · rw [k1]
        unfold bX11_pairs_27
        rw [rr.1, if_pos (by rw [nI_leI (by omega) (by omega)]; omega)]
        simp only [c_nm]
        rw [nI_1]
      · rw [k2]
        unfold bX1_tellOfFirst_15
        rw [rc.1, if_pos (by rw [nI_leI (by omega) (by omega)]; omega)]
    · have hj2 : j < R.1 := by omega
      rw [k1, k2]
      unfold bX11_pairs_27 bX11_pairs_66 bX1_tellOfFirst_15 bX1_tellOfFirst_62
      rw [rr.1, rc.1, if_neg (by rw [nI_leI (by omega) (by omega)]; omega), if_neg (by rw [nI_leI (by omega) (by omega)]; omega)]
      simp only [c_pi, c_nm]
      rw [ld_n (by omega) (by omega), (rr.2 i hi).2.2, if_neg (b2_1 on), ld_n (by omega) (by omega), (rr.2 j hj2).2.2, ld_n (w := pI wc 19 (nI n1)) (by omega) (by omega), show aI (pI wc 19 (nI n1)) 25 j = b2 (R.2.2.2 j) from (rc.2 j hj2).2.2, nI_1]
      have f3 : Fr (fun k => k == 19) noA wc (pI wc 19 (nI n1)) := (Fr.rf wc).pi (k := 19) rfl
      have fc3 : Fr glS glA wcS (pI wc 19 (nI n1)) := fc.pi (k := 19) rfl
      have si3 := si.p19 (v := nI n1) G vti.1.1
      have rb3 : RB B (pI wc 19 (nI n1)) := rb.k f3
      have rw3 : Rw B fs k (pI wc 19 (nI n1)) wm := rw'.k (Nat.le_refl _) f3 (Fr.rf (S := noS) (A := noA) _)
      have od3 : Old st wcS (pI wc 19 (nI n1)) := od.tr (Old.of f3)
      have e19 : sI (pI wc 19 (nI n1)) 19 = nI n1 := rfl
      generalize pI wc 19 (nI n1) = w3 at *
      cases qj : R.2.2.2 j with
      | false =>
        rw [if_pos (b2_0 rfl), if_pos (b2_0 rfl)]
        exact ih (j + 1) f g B k w3 wm (by omega) (by omega) (by omega) (by omega) ⟨ext, G, rb3, rm, rw3, fc3, fm, od3⟩ si3
      | true =>
        rw [if_neg (b2_1 rfl), if_neg (b2_1 rfl), ld_n (by omega) (by omega), (rr.2 i hi).1]
        obtain ⟨w6, s2, n0, ylj, yrj, l1, l2, l3, l4, l5, l6, l7, l8, l9, l10, l11, l12, l13⟩ := cLaySecond (N := N) (d := dc) (wm := wm) (fs := fs) (st := st) G gr (rcS.k fc3) rr rb3 hi hj2 si3 e19 (by rw [fc3.1 18 rfl]; exact s18) hst
        rw [l1, cv_s]
        have rw6 : Rw B fs k w6 wm := l13 B k wm rw3
        obtain ⟨w7, wm2, t1, t2⟩ := tTell (dc := dc + 57) (dm := dm) hN l2 l3 l4 l5 si.2.2.2.2.2.2.2.1 l9 rm rw6
        rw [t1, cv_s]
        rcases t2 with ⟨t2, B2, k2, li⟩ | ⟨t2, ful⟩
        · have t2' : eX1_tellOf N (dc + 62) w6 (nI i) (nI j) = some (w7, 1) := t2
          rw [t2', cl_s, if_neg i10]
          obtain ⟨e2, G2, rb2, rm2, rw2, fc2, fm2, od2, sw2⟩ := li
          exact ih (j + 1) f g B2 k2 w7 wm2 (by omega) (by omega) (by omega) (by omega) ⟨ext.tr e2, G2, rb2, rm2, rw2, (fc3.tr l8).tr fc2.gt, fm.tr fm2, (od3.tr l12).tr od2⟩ (si3.next G G2 gr hi e2 l6 l7 l3 sw2 fc2 l10 l11)
        · have t2' : eX1_tellOf N (dc + 62) w6 (nI i) (nI j) = some (w7, 0) := t2
          rw [t2', cl_s, if_pos i00]
          obtain ⟨⟨B2, G2, e2, rb2⟩, fc2, od2, ov, fm2⟩ := ful
          have ovS : OvB BS wm2 := ⟨ov.1, by
            obtain ⟨B3, x1, x2, x3⟩ := ov.2
            exact ⟨B3, x1, ext.tr x2, x3⟩⟩
          refine ⟨w7, wm2, ?_, Or.inr ⟨rfl, ⟨B2, G2, ext.tr e2, rb2⟩, (fc3.tr l8).tr fc2.gt, (od3.tr l12).tr od2, ovS, fm.tr fm2⟩⟩
          exact oInner (D := dm + 573) grS (rrS.k (fm.tr fm2)) hi (Or.inr ovS) r (j + 1) g (by omega) (by omega) (by omega)
/-- too many terms: the reference goes through the rest -/
theorem oOuter {N D : Nat} {BS : Bk} {R : Ru} {w : Wd} {x1 : Int32} (hN : 2000000 ≤ N) (gr : GR BS R) (rr : RRm R w) (ov : OvB BS w) : ∀ r i g, R.1 - i ≤ r → i ≤ R.1 → r < g → fX11_pairs_17 N (D + 2) g w x1 (nI i) = (c_cl (eX11_refuse N (D + 2) w x1) fun w16 v17 => some (w16, v17)) := by
  have g16 := gr.1
  intro r
  induction r with
  | zero =>
    intro i g hr hi hg
    obtain ⟨g, rfl⟩ : ∃ g2, g = g2 + 1 := ⟨g - 1, by omega⟩
    have key : fX11_pairs_17 N (D + 2) (g + 1) w x1 (nI i) = bX11_pairs_17 N (D + 2) (fX11_pairs_17 N (D + 2) g) w x1 (nI i) := rfl
    rw [key]
    unfold bX11_pairs_17
    rw [rr.1, if_pos (by rw [nI_leI (by omega) (by omega)]; omega), if_neg ov.1]
  | succ r ih =>
    intro i g hr hi hg
    obtain ⟨g, rfl⟩ : ∃ g2, g = g2 + 1 := ⟨g - 1, by omega⟩
    have key : fX11_pairs_17 N (D + 2) (g + 1) w x1 (nI i) = bX11_pairs_17 N (D + 2) (fX11_pairs_17 N (D + 2) g) w x1 (nI i) := rfl
    rw [key]
    unfold bX11_pairs_17
    by_cases e : i = R.1
    · rw [rr.1, if_pos (by rw [nI_leI (by omega) (by omega)]; omega), if_neg ov.1]
    · rw [rr.1, if_neg (by rw [nI_leI (by omega) (by omega)]; omega)]
      have := oInner (N := N) (D := D) (x1 := x1) (rec17 := fX11_pairs_17 N (D + 2) g) gr rr (by omega : i < R.1) (Or.inr ov) 16 0 N (by omega) (by omega) (by omega)
      have t2 : fX11_pairs_27 N (D + 2) (fX11_pairs_17 N (D + 2) g) N w x1 (nI i) 0 = _ := this
      rw [t2]
      exact ih (i + 1) g (by omega) (by omega) (by omega)
/-- all rules -/
theorem tFirst {N dc dm st fs : Nat} {BS : Bk} {R : Ru} {wcS wmS : Wd} {x1 : Int32} (hN : 2000000 ≤ N) (ks : KS BS R st fs wcS wmS) : ∀ r i f g B k wc wm, R.1 - i ≤ r → i ≤ R.1 → r < f → r < g → GIv BS st fs wcS wmS B k wc wm →
    ∃ wc2 wm2, (fX1_tellAnew_10 N (dc + 63) f wc (nI i) = (c_cv (eX2_takeFresh N (dc + 63) wc2) fun w2 => some (w2, sI w2 15)) ∧ fX11_pairs_17 N (dm + 575) g wm x1 (nI i) = fX11_pairs_101 N (dm + 575) N (pI wm2 13 (sI wm2 14)) (nI 0) ∧ ∃ B2 k2, GIv BS st fs wcS wmS B2 k2 wc2 wm2) ∨
      (fX1_tellAnew_10 N (dc + 63) f wc (nI i) = some (wc2, -4) ∧ fX11_pairs_17 N (dm + 575) g wm x1 (nI i) = (c_cl (eX11_refuse N (dm + 575) wm2 x1) fun w16 v17 => some (w16, v17)) ∧ GFv BS st wcS wmS wc2 wm2) := by
  have ks0 := ks
  obtain ⟨GS, grS, rcS, rrS, s18, hst⟩ := ks
  have g16 := grS.1
  have endc : ∀ f i B k wc wm, R.1 ≤ i → i ≤ 100 → GIv BS st fs wcS wmS B k wc wm → fX1_tellAnew_10 N (dc + 63) (f + 1) wc (nI i) = (c_cv (eX2_takeFresh N (dc + 63) wc) fun w2 => some (w2, sI w2 15)) := fun f i B k wc wm h1 h2 inv => by
    obtain ⟨ext, G, rb, rm, rw', fc, fm, od⟩ := inv
    have rc : RRc R wc := rcS.k fc
    have key : fX1_tellAnew_10 N (dc + 63) (f + 1) wc (nI i) = bX1_tellAnew_10 N (dc + 63) (fX1_tellAnew_10 N (dc + 63) f) wc (nI i) := rfl
    rw [key]
    unfold bX1_tellAnew_10
    rw [rc.1, if_pos (by rw [nI_leI (by omega) (by omega)]; omega)]
  have endm : ∀ g i B k wc wm, R.1 ≤ i → i ≤ 100 → GIv BS st fs wcS wmS B k wc wm → fX11_pairs_17 N (dm + 575) (g + 1) wm x1 (nI i) = fX11_pairs_101 N (dm + 575) N (pI wm 13 (sI wm 14)) (nI 0) := fun g i B k wc wm h1 h2 inv => by
    obtain ⟨ext, G, rb, rm, rw', fc, fm, od⟩ := inv
    have rr : RRm R wm := rrS.k fm
    have key : fX11_pairs_17 N (dm + 575) (g + 1) wm x1 (nI i) = bX11_pairs_17 N (dm + 575) (fX11_pairs_17 N (dm + 575) g) wm x1 (nI i) := rfl
    rw [key]
    unfold bX11_pairs_17
    rw [rr.1, if_pos (by rw [nI_leI (by omega) (by omega)]; omega), rm.2.2.1, if_pos i00]
    rfl
  intro r
  induction r with
  | zero =>
    intro i f g B k wc wm hr hi hf hg inv
    obtain ⟨f, rfl⟩ : ∃ f2, f = f2 + 1 := ⟨f - 1, by omega⟩
    obtain ⟨g, rfl⟩ : ∃ g2, g = g2 + 1 := ⟨g - 1, by omega⟩
    exact ⟨wc, wm, Or.inl ⟨endc f i B k wc wm (by omega) (by omega) inv, endm g i B k wc wm (by omega) (by omega) inv, B, k, inv⟩⟩
  | succ r ih =>
    intro i f g B k wc wm hr hi hf hg inv
    obtain ⟨f, rfl⟩ : ∃ f2, f = f2 + 1 := ⟨f - 1, by omega⟩
    obtain ⟨g, rfl⟩ : ∃ g2, g = g2 + 1 := ⟨g - 1, by omega⟩
    by_cases e : i = R.1
    · exact ⟨wc, wm, Or.inl ⟨endc f i B k wc wm (by omega) (by omega) inv, endm g i B k wc wm (by omega) (by omega) inv, B, k, inv⟩⟩
    · have inv0 := inv
      obtain ⟨ext, G, rb, rm, rw', fc, fm, od⟩ := inv
      have hi2 : i < R.1 := by omega
      have rr : RRm R wm := rrS.k fm
      have rc : RRc R wc := rcS.k fc
      have gr := grS.ext ext
      have k1 : fX1_tellAnew_10 N (dc + 63) (f + 1) wc (nI i) = bX1_tellAnew_10 N (dc + 63) (fX1_tellAnew_10 N (dc + 63) f) wc (nI i) := rfl
      have k2 : fX11_pairs_17 N (dm + 575) (g + 1) wm x1 (nI i) = bX11_pairs_17 N (dm + 575) (fX11_pairs_17 N (dm + 575) g) wm x1 (nI i) := rfl
      rw [k1, k2]
      unfold bX1_tellAnew_10 bX1_tellAnew_44 bX11_pairs_17
      rw [rc.1, rr.1, if_neg (by rw [nI_leI (by omega) (by omega)]; omega), if_neg (by rw [nI_leI (by omega) (by omega)]; omega), ld_n (by omega) (by omega), (rc.2 i hi2).2.2]
      simp only [c_nm]
      rw [nI_1]
      cases qi : R.2.2.2 i with
      | false =>
        have off := oInner (N := N) (D := dm + 573) (x1 := x1) (rec17 := fX11_pairs_17 N (dm + 575) g) grS rr hi2 (Or.inl qi) 16 0 N (by omega) (by omega) (by omega)
        have off' : fX11_pairs_27 N (dm + 575) (fX11_pairs_17 N (dm + 575) g) N wm x1 (nI i) 0 = _ := off
        rw [if_pos (b2_0 rfl), off']
        exact ih (i + 1) f g B k wc wm (by omega) (by omega) (by omega) (by omega) inv0
      | true =>
        obtain ⟨w1, s, le, n1, yri, l1, l2, l3, l4, l5, l6, l7⟩ := cLayFirst (N := N) (d := dc) G gr rc rb hi2
        have tf : eX1_tellOfFirst N (dc + 63) wc (nI i) = fX1_tellOfFirst_15 N (dc + 62) N w1 (nI i) (nI n1) (nI 0) := by
          have k0 : eX1_tellOfFirst N (dc + 63) wc (nI i) = bX1_tellOfFirst_0 N (dc + 62) wc (nI i) := rfl
          rw [k0]
          unfold bX1_tellOfFirst_0
          rw [l1, cv_s]
          simp only [c_nm]
          rw [l3]
          rfl
        rw [if_neg (b2_1 rfl), tf]
        have inv1 : GIv BS st fs wcS wmS B k w1 wm := ⟨ext, G, l5, rm, l7 B fs k wm rw', fc.tr l4, fm, od.tr (l6 st)⟩
        obtain ⟨w5, wm2, t1, t2⟩ := tSecond (N := N) (dc := dc) (dm := dm) (x1 := x1) (rec17 := fX11_pairs_17 N (dm + 575) g) hN ks0 hi2 qi 16 0 N N B k w1 wm (by omega) (by omega) (by omega) (by omega) inv1 l2
        have t1' : fX11_pairs_27 N (dm + 575) (fX11_pairs_17 N (dm + 575) g) N wm x1 (nI i) 0 = _ := t1
        rw [t1']
        rcases t2 with ⟨t2, B2, k2, inv2⟩ | ⟨t2, gf⟩
        · rw [t2, cl_s, if_neg i10]
          exact ih (i + 1) f g B2 k2 w5 wm2 (by omega) (by omega) (by omega) (by omega) inv2
        · rw [t2, cl_s, if_pos i00]
          refine ⟨w5, wm2, Or.inr ⟨rfl, ?_, gf⟩⟩
          exact oOuter (D := dm + 573) hN grS (rrS.k gf.2.2.2.2) gf.2.2.2.1 r (i + 1) g (by omega) (by omega) (by omega)
