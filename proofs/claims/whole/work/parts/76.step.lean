theorem op_step {N d : Nat} (hN : 2000000 ≤ N) : Op_step N (d + 1040) II := by
  intro t wc wm x y ht600 h
  obtain ⟨B, R, G, gr, rb, rm, rc, rr, ru, rp, rt, rs0⟩ := id h
  have g1 := G.1
  have key : eX10_step N (d + 1040) wc x y = bX10_step_0 N (d + 1039) wc x y := rfl
  have key2 : eX11_step N (d + 1040) wm x y = bX11_step_0 N (d + 1039) wm x y := rfl
  have rm1 : RM B (pI wm 0 0) := rm
  rw [key, key2]
  unfold bX10_step_0 bX11_step_0 bX10_step_16 bX11_step_23
  simp only [c_pi, c_nm]
  rw [cIsTerm rb, cl_s, mIsTerm G rm1, cl_s, iw_k 2 (y := 2) rfl, cl_s, in_k 2 (y := 1) (by omega) (by decide), cl_s]
  rcases iw_cases (n := nB B) (by omega) x with ⟨k, hk, ek, qk⟩ | ⟨_, q⟩
  · rcases iw_cases (n := 2) (by omega) y with ⟨way, hw, ew, qw⟩ | ⟨_, q⟩
    · simp only [qk, qw, i10, if_false]
      rw [ek, ew, rb.2.1, rm1.2.1]
      -- the class
      have eb : eX3_begin N (d + 1039) wc (-1) = some (pI (pI wc 4 (sI wc 4 + 1)) 5 (-1)) := rfl
      rw [eb, cv_s]
      generalize hw6 : pI (pI wc 4 (sI wc 4 + 1)) 5 (-1) = w6
      have f6 : Fr ocS ocA wc w6 := by rw [← hw6]; exact ((Fr.rf wc).pi rfl).pi rfl
      obtain ⟨st, st1, st2, ki6⟩ := Kc.begin (B := B) (R := R) (ex := 2000) (w2 := w6) rs0 ht600 (by rw [← hw6]; rfl) (by rw [← hw6]; rfl)
      have rb6 : RB B (pI w6 14 0) := by rw [← hw6]; exact rb
      have rc6 : RRc R (pI w6 14 0) := by rw [← hw6]; exact rc
      have f60 : Fr ocS ocA wc (pI w6 14 0) := f6.pi rfl
      obtain ⟨c1, c2⟩ := cOne G gr (N := N) (d := d + 1004) (way := way) (c := 0) (ex := 2000) (st := st) (w := pI w6 14 0) hN (Or.inr rfl) (by omega) st2 hk rb6 rc6 (by rw [← hw6]; rfl) ki6 rfl (by omega)
      have key3 : eX3_rewriteOnce N (d + 1039) w6 (nI k) (nI way) = bX3_rewriteOnce_0 N (d + 1038) w6 (nI k) (nI way) := rfl
      rw [key3]
      unfold bX3_rewriteOnce_0 bX3_rewriteOnce_29
      simp only [c_pi]
      -- the reference
      generalize hw7 : pI (pI wm 0 0) 5 (-1) = w7
      have f7 : Fr omS omA wm w7 := by rw [← hw7]; exact ((Fr.rf wm).pi rfl).pi rfl
      have rm7 : RM B w7 := by rw [← hw7]; exact rm
      have rr7 : RRm R w7 := by rw [← hw7]; exact rr
      obtain ⟨m1, m2⟩ := mStepped (N := N) (d := d + 3) (ex := 2000) (way := way) (most := 1) (w := w7) hN (Or.inr rfl) (by omega) (by omega) G gr hk rm7 rr7 (by rw [← hw7]; rfl)
      have p2m : ∀ {w9 w10 : Wd}, Fr (fun k => k == 8) (fun k => k == 15 || k == 16) w9 w10 → Fr pmS pmA w9 w10 := fun p2 => p2.mn (fun k hk => by
          simp only [Bool.or_eq_false_iff] at hk
          exact hk.1.2) (fun k hk => by
          simp only [Bool.or_eq_false_iff, Bool.and_eq_false_iff, decide_eq_false_iff_not, beq_eq_false_iff_ne] at hk ⊢
          omega)
      have keep : ∀ w8 z c f g, ¬ z = -4 → eX6_copyFrom_r8 N (d + 1038) w8 = some (pB (pA (pI w8 13 c) 41 f) 42 g) → eX10_keepSteps N (d + 1039) w8 z (nI (nB B)) = some (pB (pA (pI w8 13 c) 41 f) 42 g, z) := fun w8 z c f g hz ho => by
        show bX10_keepSteps_0 N (d + 1038) w8 z (nI (nB B)) = _
        unfold bX10_keepSteps_0 bX10_keepSteps_20
        rw [if_neg hz, ho, cv_s]
        have : ∀ w, eX10_undoIfFull N (d + 1038) w z (nI (nB B)) = some (w, z) := fun w => by
          show bX10_undoIfFull_0 N (d + 1037) w z (nI (nB B)) = _
          unfold bX10_undoIfFull_0 bX10_undoIfFull_14
          rw [if_neg hz]
        rw [this, cl_s]
      have itr1 : itr R 2000 way 1 B k = if cnu B R 2000 k = true then (match rs B R 2000 way k with | none => none | some x => (match itr R 2000 way 0 x.1 x.2 with | none => none | some y => some (y.1, y.2.1, (RA B R 2000 (ptu B R 2000 way k).2, plc 1 (ptu B R 2000 way k).1) :: y.2.2))) else some (B, k, []) := rfl
      cases hc : cnu B R 2000 k with
      | false =>
        obtain ⟨w8, a1, a2, a3⟩ := c1 hc
        have a4 : eX3_search N (d + 1038) (pI w6 14 0) (nI k) (nI way) = _ := a1
        have hi : itr R 2000 way 1 B k = some (B, k, []) := by rw [itr1, if_neg (by rw [hc]; decide)]
        obtain ⟨w9, b1, b2, b3, b4, b5, b6, b7, b8⟩ := m1 B k [] hi
        have b9 : eX11_stepped N (d + 1039) w7 (nI k) (nI way) 1 = _ := b1
        have s14 : sI w8 14 = nI 0 := by rw [a2.1 14 rfl]; rfl
        obtain ⟨f, g, o1, o2⟩ := cCopy (N := N) (d := d + 1037) s14 (by omega)
        obtain ⟨w10, p1, p2, p3, p4⟩ := mKeep (N := N) (d := d + 1038) (c := 0) hN (by omega) b7
        have s910 : sI w10 9 = 0 := by rw [p2.1 9 rfl]; exact b7
        rw [a4, cl_s, if_pos rfl, cl_s, keep w8 (-1) _ f g (by decide) o1, cl_s, b9, cl_s, if_pos b2.2.2.1, p1, cv_s, if_pos s910]
        have fc8 : Fr pcS pcA wc w8 := (f60.tr a2.rdse.oc).pc
        have fc : Fr pcS pcA wc (pB (pA (pI w8 13 (nI 0)) 41 f) 42 g) := ((fc8.pi rfl).pa rfl).pb rfl
        have fm : Fr pmS pmA wm w10 := (f7.pm.tr b6.om.pm).tr (p2m p2)
        refine ⟨_, w10, -1, rfl, rfl, II.fin gr rc rr rp rt G (Ext.rf B) (rb6.k a2 : RB B w8) (b2.k p2) fc fm (RU.of (w7 := w8) (w8 := w9) (l := []) (by show 0 ≤ 100; omega) (fun i x hx => by simp at hx) b8 rfl p3 (fun i hi => absurd hi (Nat.not_lt_zero _)) (fun i hi => absurd hi (Nat.not_lt_zero _))) ?_⟩
        refine Kc.rs (B := B) (R := R) (ex := 2000) (st := st) a3 st1 ?_
        rw [(fc.2 38 rfl).1]; exact rs0.2
      | true =>
        obtain ⟨w1, r, hr16, q1, q2, q3, q4⟩ := c2 hc
        have q5 : eX3_search N (d + 1038) (pI w6 14 0) (nI k) (nI way) = _ := q1
        rw [q5, cl_s, if_neg (nI_m1 (by omega))]
        cases hr : rs B R 2000 way k with
        | none =>
          have hi : itr R 2000 way 1 B k = none := by rw [itr1, if_pos hc, hr]
          obtain ⟨w8, B8, a1, a2, a3, a4, a5, a6⟩ := q4 hr
          have a7 : eX3_replace N (d + 1038) w1 (nI r) = _ := a1
          obtain ⟨w9, z, b1, b2, ⟨B9, b3, b4, b5⟩, b6⟩ := m2 hi
          have b7 : eX11_stepped N (d + 1039) w7 (nI k) (nI way) 1 = _ := b1
          obtain ⟨w10, s1, s2, s3⟩ := cShrink (N := N) (d := d + 1035) a3 a4 a2 hN
          have e1 : eX10_keepSteps N (d + 1039) w8 (-4) (nI (nB B)) = some (w10, -4) := by
            show bX10_keepSteps_0 N (d + 1038) w8 (-4) (nI (nB B)) = _
            unfold bX10_keepSteps_0 bX10_keepSteps_20
            rw [if_pos rfl]
            have : eX10_undoIfFull N (d + 1038) w8 (-4) (nI (nB B)) = some (w10, -4) := by
              show bX10_undoIfFull_0 N (d + 1037) w8 (-4) (nI (nB B)) = _
              unfold bX10_undoIfFull_0 bX10_undoIfFull_14
              have s4 : eX8_shrinkTo N (d + 1037) w8 (nI (nB B)) = _ := s1
              rw [if_pos rfl, s4, cv_s]
            rw [this, cl_s]
          rw [a7, cl_s, cl_s, e1, cl_s, b7, cl_s, if_neg b2, (mRefuse (N := N) (d := d + 1038) b4 b5).1, cl_s]
          have fc : Fr ocS ocA wc w10 := f60.tr (a5.oc.tr s3.rd.oc)
          have fm : Fr omS omA wm (pI (pI w9 4 0) 2 (nI (nB B))) := ((f7.tr b6.om).pi rfl).pi rfl
          refine ⟨w10, _, -4, rfl, rfl, II.fin gr rc rr rp rt G (Ext.rf B) s2 (mRefuse (N := N) (d := d) b4 b5).2 fc.pc fm.pm (ru.k fc fm) ?_⟩
          refine Kc.rs (B := B8) (R := R) (ex := 2000) (st := st) ⟨?_, ?_, ?_⟩ st1 ?_
          · rw [s3.1 4 (by omega)]; exact a6.1
          · rw [(s3.2.1 26 (by omega)).1]; exact a6.2.1
          · rw [(s3.2.1 26 (by omega)).1]; exact a6.2.2
          · rw [(fc.2 38 rfl).1]; exact rs0.2
        | some v =>
          obtain ⟨B2, t2⟩ := v
          have hi : itr R 2000 way 1 B k = some (B2, t2, [(RA B R 2000 (ptu B R 2000 way k).2, plc 1 (ptu B R 2000 way k).1)]) := by
            rw [itr1, if_pos hc, hr]
            rfl
          obtain ⟨w8, a1, a2, a3, a4, a5, a6, a7, a8, a9, a10⟩ := q3 B2 t2 hr
          have a11 : eX3_replace N (d + 1038) w1 (nI r) = _ := a1
          obtain ⟨w9, b1, b2, b3, b4, b5, b6, b7, b8⟩ := m1 _ _ _ hi
          have b9 : eX11_stepped N (d + 1039) w7 (nI k) (nI way) 1 = _ := b1
          have g21 := a3.1
          have b7' : sI w9 9 = nI 1 := b7
          obtain ⟨f, g, o1, o2⟩ := cCopy (N := N) (d := d + 1037) (c := 0 + 1) a8 (by omega)
          obtain ⟨w10, p1, p2, p3, p4⟩ := mKeep (N := N) (d := d + 1038) (c := 1) hN (by omega) b7'
          have s910 : ¬ sI w10 9 = 0 := by rw [p2.1 9 rfl, b7']; decide
          rw [a11, cl_s, cl_s, keep w8 (nI t2) _ f g (nI_m4 (by omega)) o1, cl_s, b9, cl_s, if_pos b2.2.2.1, p1, cv_s, if_neg s910]
          have fc8 : Fr pcS pcA wc w8 := (f60.tr a6.oc).pc
          have fc : Fr pcS pcA wc (pB (pA (pI w8 13 (nI (0 + 1))) 41 f) 42 g) := ((fc8.pi rfl).pa rfl).pb rfl
          have fm : Fr pmS pmA wm w10 := (f7.pm.tr b6.om.pm).tr (p2m p2)
          refine ⟨_, w10, nI t2, rfl, rfl, II.fin gr rc rr rp rt a3 a4 a2 (b2.k p2) fc fm (RU.of (w7 := w8) (w8 := w9) (l := [(RA B R 2000 (ptu B R 2000 way k).2, plc 1 (ptu B R 2000 way k).1)]) (by show 1 ≤ 100; omega) ?_ b8 rfl p3 o2 p4) ?_⟩
          · refine NL.cons ⟨?_, ?_⟩ (fun i x hx => by simp at hx)
            · rw [a9, if_pos rfl]
            · rw [a10, if_pos rfl]
          · refine Kc.rs (B := B2) (R := R) (ex := 2000) (st := st) a7 st1 ?_
            rw [(fc.2 38 rfl).1]; exact rs0.2
    · refine two_th (r := -2) ?_ ?_ h
      · simp only [qk, q, i10, if_true, if_false]
      · simp only [qk, q, i10, if_true, if_false]
  · refine two_th (r := -2) ?_ ?_ h
    · simp only [q, if_true]
    · simp only [q, if_true]
