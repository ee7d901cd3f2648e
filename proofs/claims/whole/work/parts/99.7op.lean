/-! pairs -/
/-- the reference takes what is told -/
theorem mTake {N D k : Nat} (hk : k ≤ 60) : ∀ r q g w, k - q ≤ r → q ≤ k → r < g → sI w 14 = nI k →
    ∃ w2, fX11_pairs_101 N D g w (nI q) = some (w2, sI w 13) ∧ Fr noS (fun j => decide (21 < j) && decide (j < 27)) w w2 ∧
      (∀ x, q ≤ x → x < k → aI w2 22 x = aI w 27 (4 * x) ∧ aI w2 23 x = aI w 27 (4 * x + 1) ∧ aI w2 25 x = aI w 27 (4 * x + 2) ∧ aI w2 26 x = aI w 27 (4 * x + 3) ∧ aL w2 24 x = aL w 28 x) ∧
      (∀ x, x < q → aI w2 22 x = aI w 22 x ∧ aI w2 23 x = aI w 23 x ∧ aI w2 25 x = aI w 25 x ∧ aI w2 26 x = aI w 26 x ∧ aL w2 24 x = aL w 24 x) := by
  intro r
  induction r with
  | zero =>
    intro q g w hr hq hg h14
    obtain ⟨g, rfl⟩ : ∃ g2, g = g2 + 1 := ⟨g - 1, by omega⟩
    have key : fX11_pairs_101 N D (g + 1) w (nI q) = bX11_pairs_101 N D (fX11_pairs_101 N D g) w (nI q) := rfl
    rw [key]
    unfold bX11_pairs_101
    rw [h14, if_pos (by rw [nI_leI (by omega) (by omega)]; omega)]
    exact ⟨w, rfl, Fr.rf w, fun x h1 h2 => by omega, fun _ _ => ⟨rfl, rfl, rfl, rfl, rfl⟩⟩
  | succ r ih =>
    intro q g w hr hq hg h14
    obtain ⟨g, rfl⟩ : ∃ g2, g = g2 + 1 := ⟨g - 1, by omega⟩
    have key : fX11_pairs_101 N D (g + 1) w (nI q) = bX11_pairs_101 N D (fX11_pairs_101 N D g) w (nI q) := rfl
    rw [key]
    unfold bX11_pairs_101
    by_cases e : q = k
    · rw [h14, if_pos (by rw [nI_leI (by omega) (by omega)]; omega)]
      exact ⟨w, rfl, Fr.rf w, fun x h1 h2 => by omega, fun _ _ => ⟨rfl, rfl, rfl, rfl, rfl⟩⟩
    · obtain ⟨r0, r1, r2, r3⟩ := row4 q (by omega)
      rw [h14, if_neg (by rw [nI_leI (by omega) (by omega)]; omega), r1, r2, r3, r0, ld_n (by omega) (by omega), st_n (by omega) (by omega), ld_n (by omega) (by omega), st_n (by omega) (by omega), ld_n (by omega) (by omega), st_n (by omega) (by omega), ld_n (by omega) (by omega), st_n (by omega) (by omega), ll_n (by omega) (by omega), sl_n (by omega) (by omega)]
      simp only [c_nm]
      rw [nI_1]
      have fr : Fr noS (fun j => decide (21 < j) && decide (j < 27)) w (pB (pA (pA (pA (pA w 22 (upd (aI w 22) q (aI w 27 (4 * q)))) 23 (upd (aI w 23) q (aI w 27 (4 * q + 1)))) 25 (upd (aI w 25) q (aI w 27 (4 * q + 2)))) 26 (upd (aI w 26) q (aI w 27 (4 * q + 3)))) 24 (vp_updL (aL w 24) q (aL w 28 q))) :=
        (((((Fr.rf w).pa (k := 22) rfl).pa (k := 23) rfl).pa (k := 25) rfl).pa (k := 26) rfl).pb (k := 24) rfl
      obtain ⟨w2, o1, o2, o3, o4⟩ := ih (q + 1) g (pB (pA (pA (pA (pA w 22 (upd (aI w 22) q (aI w 27 (4 * q)))) 23 (upd (aI w 23) q (aI w 27 (4 * q + 1)))) 25 (upd (aI w 25) q (aI w 27 (4 * q + 2)))) 26 (upd (aI w 26) q (aI w 27 (4 * q + 3)))) 24 (vp_updL (aL w 24) q (aL w 28 q))) (by omega) (by omega) (by omega) h14
      refine ⟨w2, o1, fr.tr o2, fun x h1 h2 => ?_, fun x hx => ?_⟩
      · by_cases z : x = q
        · obtain ⟨z1, z2, z3, z4, z5⟩ := o4 x (by omega)
          rw [z1, z2, z3, z4, z5, z]
          exact ⟨upd_s, upd_s, upd_s, upd_s, updL_s⟩
        · exact o3 x (by omega) h2
      · obtain ⟨z1, z2, z3, z4, z5⟩ := o4 x (by omega)
        rw [z1, z2, z3, z4, z5]
        exact ⟨upd_n (by omega), upd_n (by omega), upd_n (by omega), upd_n (by omega), updL_n (by omega)⟩
theorem op_pairs {N d : Nat} (hN : 2000000 ≤ N) : Op_pairs N (d + 576) II := by
  intro t wc wm ht h
  obtain ⟨B, R, G, gr, rb, rm, rc, rr, ru, rp, rt, rs⟩ := h
  have g1 := G.1
  have g16 := gr.1
  obtain ⟨ko, st, fs, p1, p2, p3, p4, p5, p6, p7⟩ := rp
  -- where both begin
  have fcS : Fr (fun k => k == 16) noA wc (pI wc 16 0) := (Fr.rf wc).pi (k := 16) rfl
  have fmS : Fr (fun k => k == 0 || k == 14) noA wm (pI (pI wm 0 0) 14 0) := ((Fr.rf wm).pi (k := 0) rfl).pi (k := 14) rfl
  have rbS : RB B (pI wc 16 0) := rb.k fcS
  have rmS : RM B (pI (pI wm 0 0) 14 0) := rm.k fmS
  have rwS : Rw B fs 0 (pI wc 16 0) (pI (pI wm 0 0) 14 0) := ⟨by omega, rfl, rfl, fun q hq => by omega⟩
  have ks : KS B R st fs (pI wc 16 0) (pI (pI wm 0 0) 14 0) := ⟨G, gr, rc.k fcS, rr.k fmS, p5, p2⟩
  have inv : GIv B st fs (pI wc 16 0) (pI (pI wm 0 0) 14 0) B 0 (pI wc 16 0) (pI (pI wm 0 0) 14 0) := ⟨Ext.rf B, G, rbS, rmS, rwS, Fr.rf _, Fr.rf _, Old.rf _⟩
  have odS : Old st wc (pI wc 16 0) := Old.rf wc
  have k1 : eX10_pairs N (d + 576) wc = (c_cl (fX1_tellAnew_10 N (d + 574) N (pI wc 16 0) (nI 0)) fun w2 v3 => c_cl (eX10_undoIfFull N (d + 575) w2 v3 (nI (nB B))) fun w4 v5 => some (w4, v5)) := by
    have k0 : eX10_pairs N (d + 576) wc = bX10_pairs_0 N (d + 575) wc := rfl
    rw [k0]
    unfold bX10_pairs_0
    simp only [c_nm]
    rw [rb.2.1]
    have k2 : eX1_tellAnew N (d + 575) wc = fX1_tellAnew_10 N (d + 574) N (pI wc 16 0) (nI 0) := rfl
    rw [k2]
  have k2 : eX11_pairs N (d + 576) wm = fX11_pairs_17 N (d + 575) N (pI (pI wm 0 0) 14 0) (nI (nB B)) (nI 0) := by
    have k0 : eX11_pairs N (d + 576) wm = fX11_pairs_17 N (d + 575) N (pI (pI wm 0 0) 14 0) (sI (pI wm 0 0) 2) (nI 0) := rfl
    rw [k0, show sI (pI wm 0 0) 2 = nI (nB B) from rm.2.1]
  rw [k1, k2]
  obtain ⟨c2, m2, hh⟩ := tFirst (N := N) (dc := d + 511) (dm := d) (x1 := nI (nB B)) hN ks 16 0 N N B 0 _ _ (by omega) (by omega) (by omega) (by omega) inv
  rcases hh with ⟨a1, a2, B2, k, gi⟩ | ⟨a1, a2, gf⟩
  · have a1' : fX1_tellAnew_10 N (d + 574) N (pI wc 16 0) (nI 0) = _ := a1
    rw [a1', a2]
    obtain ⟨ext, G2, rb2, rm2, rw2, fc2, fm2, od2⟩ := gi
    -- the class takes
    have tk : eX2_takeFresh N (d + 511 + 63) c2 = some (pI (pI (pI c2 17 (sI c2 18)) 18 (sI c2 17)) 15 (sI c2 16)) := rfl
    rw [tk, cv_s]
    have s16 := rw2.2.1
    have s17 : sI c2 17 = nI st := by rw [fc2.1 17 rfl]; exact p4
    have s18 : sI c2 18 = nI fs := by rw [fc2.1 18 rfl]; exact p5
    have f15 : Fr (fun k => k == 15 || k == 17 || k == 18) noA c2 (pI (pI (pI c2 17 (sI c2 18)) 18 (sI c2 17)) 15 (sI c2 16)) := (((Fr.rf c2).pi (k := 17) rfl).pi (k := 18) rfl).pi (k := 15) rfl
    have e15 : sI (pI (pI (pI c2 17 (sI c2 18)) 18 (sI c2 17)) 15 (sI c2 16)) 15 = nI k := s16
    have e17 : sI (pI (pI (pI c2 17 (sI c2 18)) 18 (sI c2 17)) 15 (sI c2 16)) 17 = nI fs := s18
    have e18 : sI (pI (pI (pI c2 17 (sI c2 18)) 18 (sI c2 17)) 15 (sI c2 16)) 18 = nI st := s17
    generalize pI (pI (pI c2 17 (sI c2 18)) 18 (sI c2 17)) 15 (sI c2 16) = c3 at *
    rw [cl_s, e15]
    have un : eX10_undoIfFull N (d + 575) c3 (nI k) (nI (nB B)) = some (c3, nI k) := by
      have k0 : eX10_undoIfFull N (d + 575) c3 (nI k) (nI (nB B)) = bX10_undoIfFull_0 N (d + 574) c3 (nI k) (nI (nB B)) := rfl
      rw [k0]
      unfold bX10_undoIfFull_0 bX10_undoIfFull_14
      rw [if_neg (nI_m4 (by have := rw2.1; omega))]
    rw [un, cl_s]
    -- the reference takes
    have m14 := rw2.2.2.1
    obtain ⟨m3, o1, o2, o3, o4⟩ := mTake (N := N) (D := d + 575) rw2.1 60 0 N (pI m2 13 (sI m2 14)) (by have := rw2.1; omega) (by omega) (by omega) m14
    rw [o1, show sI (pI m2 13 (sI m2 14)) 13 = nI k from m14]
    have f13 : Fr (fun k => k == 13) noA m2 (pI m2 13 (sI m2 14)) := (Fr.rf m2).pi (k := 13) rfl
    refine ⟨c3, m3, nI k, rfl, rfl, B2, R, G2, gr.ext ext, rb2.k f15, (rm2.k f13).k o2, ((rc.k fcS).k fc2).k f15, (((rr.k fmS).k fm2).k f13).k o2, ?_, ?_, ?_, ?_⟩
    · exact (((ru.k fcS fmS).k fc2 fm2).k f15 f13).k (Fr.rf (S := noS) (A := noA) c3) o2
    · refine ⟨k, fs, st, rw2.1, by omega, e15, e17, e18, by rw [o2.1 13 rfl]; exact m14, fun q hq => ?_⟩
      obtain ⟨q1, q2, q3, q4, q5, q6, q7⟩ := rw2.2.2.2 q hq
      obtain ⟨z1, z2, z3, z4, z5⟩ := o3 q (by omega) hq
      have y1 : aI m3 22 q = aI m2 27 (4 * q) := z1
      have y2 : aI m3 23 q = aI m2 27 (4 * q + 1) := z2
      have y3 : aI m3 25 q = aI m2 27 (4 * q + 2) := z3
      have y4 : aI m3 26 q = aI m2 27 (4 * q + 3) := z4
      have y5 : aL m3 24 q = aL m2 28 q := z5
      rw [(f15.2 45 rfl).1, (f15.2 46 rfl).1, (f15.2 47 rfl).2, (f15.2 48 rfl).1, (f15.2 49 rfl).1, y1, y2, y3, y4, y5]
      exact ⟨q1, q2, q3, q4, q5, q6, q7⟩
    · exact (((rt.k rfl fcS fmS).k ext.2.1 fc2 fm2).k rfl f15 f13).k rfl (Fr.rf (S := noS) (A := noA) c3) o2
    · exact (((rs.k fcS).k fc2).k f15).up
  · have a1' : fX1_tellAnew_10 N (d + 574) N (pI wc 16 0) (nI 0) = _ := a1
    rw [a1', a2, cl_s]
    obtain ⟨⟨B2, G2, ext, rb2⟩, fc2, od2, ov, fm2⟩ := gf
    obtain ⟨ho, B3, G3, e3, rm3⟩ := ov
    obtain ⟨c3, s1, s2, s3⟩ := cShrink (N := N) (d := d + 572) G2 ext rb2 hN
    have un : eX10_undoIfFull N (d + 575) c2 (-4) (nI (nB B)) = some (c3, -4) := by
      have k0 : eX10_undoIfFull N (d + 575) c2 (-4) (nI (nB B)) = bX10_undoIfFull_0 N (d + 574) c2 (-4) (nI (nB B)) := rfl
      have s1' : eX8_shrinkTo N (d + 574) c2 (nI (nB B)) = some c3 := s1
      rw [k0]
      unfold bX10_undoIfFull_0 bX10_undoIfFull_14
      rw [if_pos rfl, s1', cv_s]
    rw [un, cl_s]
    obtain ⟨r1, r2⟩ := mRefuse (N := N) (d := d + 574) e3 rm3
    have r1' : eX11_refuse N (d + 575) m2 (nI (nB B)) = some (pI (pI m2 4 0) 2 (nI (nB B)), -4) := r1
    rw [r1', cl_s]
    have f42 : Fr (fun k => k == 2 || k == 4) noA m2 (pI (pI m2 4 0) 2 (nI (nB B))) := ((Fr.rf m2).pi (k := 4) rfl).pi (k := 2) rfl
    have fc3 : Fr blS blA c2 c3 := s3.bl
    refine ⟨c3, pI (pI m2 4 0) 2 (nI (nB B)), -4, rfl, rfl, B, R, G, gr, s2, r2, ((rc.k fcS).k fc2).k fc3, ((rr.k fmS).k fm2).k f42, ?_, ?_, ?_, ?_⟩
    · exact ((ru.k fcS fmS).k fc2 fm2).k fc3 f42
    · refine ⟨ko, st, fs, p1, p2, by rw [fc3.1 15 rfl, fc2.1 15 rfl]; exact p3, by rw [fc3.1 17 rfl, fc2.1 17 rfl]; exact p4, by rw [fc3.1 18 rfl, fc2.1 18 rfl]; exact p5, by rw [f42.1 13 rfl, fm2.1 13 rfl]; exact p6, fun q hq => ?_⟩
      obtain ⟨z1, z2, z3, z4, z5⟩ := od2 q (by omega)
      obtain ⟨q1, q2, q3, q4, q5, q6, q7⟩ := p7 q hq
      have y22 : ∀ k, k < 27 → 22 ≤ k → aI (pI (pI m2 4 0) 2 (nI (nB B))) k = aI wm k ∧ aL (pI (pI m2 4 0) 2 (nI (nB B))) k = aL wm k := fun k h1 h2 => by
        have : mtA k = false := by
          have : k = 22 ∨ k = 23 ∨ k = 24 ∨ k = 25 ∨ k = 26 := by omega
          rcases this with z | z | z | z | z <;> rw [z] <;> rfl
        exact ⟨(fm2.2 k this).1, (fm2.2 k this).2⟩
      rw [(fc3.2 45 rfl).1, (fc3.2 46 rfl).1, (fc3.2 47 rfl).2, (fc3.2 48 rfl).1, (fc3.2 49 rfl).1, z1, z2, z3, z4, z5, (y22 22 (by omega) (by omega)).1, (y22 23 (by omega) (by omega)).1, (y22 24 (by omega) (by omega)).2, (y22 25 (by omega) (by omega)).1, (y22 26 (by omega) (by omega)).1]
      exact ⟨q1, q2, q3, q4, q5, q6, q7⟩
    · exact ((rt.k rfl fcS fmS).k rfl fc2 fm2).k rfl fc3 f42
    · exact (((rs.k fcS).k fc2).k fc3).up
