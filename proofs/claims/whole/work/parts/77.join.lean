/-! joined -/
theorem nI_ge0 {x : Nat} (h : x < 2 ^ 31) : (0 : Int32) ≤ nI x := nI_pos' h
theorem join2 {t : Nat} {wc wm : Wd} {B : Bk} {R : Ru} {N dc dm ex s u : Nat} (hN : 2000000 ≤ N) (hex : ex < 16 ∨ ex = 2000) (ht600 : t < 600) (G : GB B) (gr : GR B R) (rb : RB B wc) (rm : RM B wm) (rc : RRc R wc) (rr : RRm R wm) (rs0 : RS t wc) (hs : s < nB B) (hu : u < nB B) :
    ∃ w10 c2 m2 v B2, eX3_joins N (dc + 36) wc (nI s) (nI u) (eN ex) = some (w10, v) ∧ eX10_undoIfFull N (dc + 36) w10 v (nI (nB B)) = some (c2, v) ∧ eX11_joined N (dm + 1038) wm (nI s) (nI u) (eN ex) = some (m2, v) ∧ GB B2 ∧ Ext B B2 ∧ RB B2 c2 ∧ RM B2 m2 ∧ Fr ocS ocA wc c2 ∧ Fr omS omA wm m2 ∧ RS (t + 1) c2 ∧ (v = -4 ∨ v = 0 ∨ v = 1 ∨ v = -5) := by
  have g1 := G.1
  have key : eX3_joins N (dc + 36) wc (nI s) (nI u) (eN ex) = bX3_joins_0 N (dc + 35) wc (nI s) (nI u) (eN ex) := rfl
  have key2 : eX11_joined N (dm + 1038) wm (nI s) (nI u) (eN ex) = bX11_joined_0 N (dm + 1037) wm (nI s) (nI u) (eN ex) := rfl
  rw [key, key2]
  unfold bX3_joins_0 bX11_joined_0 bX3_joins_49 bX11_joined_33
  simp only [c_pi, c_nm]
  have eb : eX3_begin N (dc + 35) wc (eN ex) = some (pI (pI wc 4 (sI wc 4 + 1)) 5 (eN ex)) := rfl
  rw [eb, cv_s, rm.2.1]
  generalize hw6 : pI (pI wc 4 (sI wc 4 + 1)) 5 (eN ex) = w6
  have f6 : Fr ocS ocA wc w6 := by rw [← hw6]; exact ((Fr.rf wc).pi rfl).pi rfl
  obtain ⟨st, st1, st2, ki6⟩ := Kc.begin (B := B) (R := R) (ex := ex) (w2 := w6) rs0 ht600 (by rw [← hw6]; rfl) (by rw [← hw6]; rfl)
  have rb6 : RB B w6 := by rw [← hw6]; exact rb
  have rc6 : RRc R w6 := by rw [← hw6]; exact rc
  have s56 : sI w6 5 = eN ex := by rw [← hw6]; rfl
  obtain ⟨c1, c2⟩ := cReduce (N := N) (d := dc) (way := 0) (ex := ex) hN hex (Or.inl rfl) st2 G gr hs rb6 rc6 s56 ki6
  generalize hw7 : pI wm 5 (eN ex) = w7
  have f7 : Fr omS omA wm w7 := by rw [← hw7]; exact (Fr.rf wm).pi rfl
  have rm7 : RM B w7 := by rw [← hw7]; exact rm
  have rr7 : RRm R w7 := by rw [← hw7]; exact rr
  have s57 : sI w7 5 = eN ex := by rw [← hw7]; rfl
  obtain ⟨m1, m2⟩ := mNormalOf (N := N) (d := dm) (ex := ex) (way := 0) (w := w7) hN hex (Or.inl rfl) G gr hs rm7 rr7 s57
  -- full: taken back
  have full : ∀ w8 B8 w9, RB B8 w8 → GB B8 → Ext B B8 → Fr ocS ocA wc w8 → Kc B8 R ex st w8 → ¬ sI w9 4 = 0 → (∃ B9, GB B9 ∧ Ext B B9 ∧ RM B9 (pI w9 4 0)) → Fr omS omA wm w9 → ∀ x5 y0,
      ∃ c2 m2 B2, eX10_undoIfFull N (dc + 36) w8 (-4) (nI (nB B)) = some (c2, -4) ∧ bX11_joined_44 N (dm + 1037) w9 (nI (nB B)) x5 y0 = some (m2, -4) ∧ GB B2 ∧ Ext B B2 ∧ RB B2 c2 ∧ RM B2 m2 ∧ Fr ocS ocA wc c2 ∧ Fr omS omA wm m2 ∧ RS (t + 1) c2 := by
    intro w8 B8 w9 a2 a3 a4 a5 a6 b2 hB9 b6 x5 y0
    obtain ⟨B9, b3, b4, b5⟩ := hB9
    obtain ⟨w10, s1, s2, s3⟩ := cShrink (N := N) (d := dc + 33) a3 a4 a2 hN
    have e1 : eX10_undoIfFull N (dc + 36) w8 (-4) (nI (nB B)) = some (w10, -4) := by
      show bX10_undoIfFull_0 N (dc + 35) w8 (-4) (nI (nB B)) = _
      unfold bX10_undoIfFull_0 bX10_undoIfFull_14
      have s4 : eX8_shrinkTo N (dc + 35) w8 (nI (nB B)) = _ := s1
      rw [if_pos rfl, s4, cv_s]
    have fc : Fr ocS ocA wc w10 := a5.tr s3.rd.oc
    refine ⟨w10, pI (pI w9 4 0) 2 (nI (nB B)), B, e1, ?_, G, Ext.rf B, s2, (mRefuse (N := N) (d := 0) b4 b5).2, fc, (b6.pi rfl).pi rfl, ?_⟩
    · unfold bX11_joined_44
      rw [if_neg b2, (mRefuse (N := N) (d := dm + 1036) b4 b5).1, cl_s]
    · refine Kc.rs (B := B8) (R := R) (ex := ex) (st := st) ⟨?_, ?_, ?_⟩ st1 ?_
      · rw [s3.1 4 (by omega)]; exact a6.1
      · rw [(s3.2.1 26 (by omega)).1]; exact a6.2.1
      · rw [(s3.2.1 26 (by omega)).1]; exact a6.2.2
      · rw [(fc.2 38 rfl).1]; exact rs0.2
  -- not full
  have same : ∀ w8 B8 w9 v0, ¬ v0 = -4 → (v0 = 0 ∨ v0 = 1 ∨ v0 = -5) → RB B8 w8 → GB B8 → Ext B B8 → Fr ocS ocA wc w8 → Kc B8 R ex st w8 → RM B8 w9 → Fr omS omA wm w9 → ∀ X, X = some (w9, v0) →
      ∃ w10 c2 m2 v B2, some (w8, v0) = some (w10, v) ∧ eX10_undoIfFull N (dc + 36) w10 v (nI (nB B)) = some (c2, v) ∧ X = some (m2, v) ∧ GB B2 ∧ Ext B B2 ∧ RB B2 c2 ∧ RM B2 m2 ∧ Fr ocS ocA wc c2 ∧ Fr omS omA wm m2 ∧ RS (t + 1) c2 ∧ (v = -4 ∨ v = 0 ∨ v = 1 ∨ v = -5) := by
    intro w8 B8 w9 v hv hv2 a2 a3 a4 a5 a6 b2 b6 X hX
    refine ⟨w8, w8, w9, v, B8, rfl, ?_, hX, a3, a4, a2, b2, a5, b6, ?_, Or.inr hv2⟩
    · show bX10_undoIfFull_0 N (dc + 35) w8 v (nI (nB B)) = _
      unfold bX10_undoIfFull_0 bX10_undoIfFull_14
      rw [if_neg hv]
    · exact Kc.rs (B := B8) (R := R) (ex := ex) (st := st) a6 st1 (by rw [(a5.2 38 rfl).1]; exact rs0.2)
  cases hi : itr R ex 0 100 B s with
  | none =>
    obtain ⟨w8, B8, a1, a2, a3, a4, a5, a6⟩ := c2 hi
    have a7 : eX3_reduce N (dc + 35) w6 (nI s) 0 = _ := a1
    obtain ⟨w9, z, b1, b2, b3, b6⟩ := m2 hi
    have b7 : eX11_normalOf N (dm + 1037) w7 (nI s) 0 = _ := b1
    rw [a7, cl_s, if_neg (show ¬ (0 : Int32) ≤ -4 by decide), b7, cl_s, if_neg b2]
    obtain ⟨c3, m3, B2, e1, e2, e3⟩ := full w8 B8 w9 a2 a3 a4 (f6.tr a5.oc) a6 b2 b3 (f7.tr b6.om) z (-5)
    obtain ⟨h1, h2, h3, h4, h5, h6, h7⟩ := e3
    exact ⟨w8, c3, m3, -4, B2, rfl, e1, e2, h1, h2, h3, h4, h5, h6, h7, Or.inl rfl⟩
  | some r =>
    obtain ⟨B1, s1, l⟩ := r
    obtain ⟨w8, a1, a2, a3, a4, a5, a6, a7, a8, a9⟩ := c1 B1 s1 l hi
    have a10 : eX3_reduce N (dc + 35) w6 (nI s) 0 = _ := a1
    obtain ⟨w9, b1, b2, b3, b4, b5, b6, b7, b8⟩ := m1 B1 s1 l hi
    have b9 : eX11_normalOf N (dm + 1037) w7 (nI s) 0 = _ := b1
    have g11 := a3.1
    have fc8 : Fr ocS ocA wc w8 := f6.tr a6.oc
    have fm9 : Fr omS omA wm w9 := f7.tr b6.om
    rw [a10, cl_s, b9, cl_s, if_pos b2.2.2.1]
    cases hc : cnu B1 R ex s1 with
    | true =>
      rw [if_pos rfl, if_neg (show ¬ (0 : Int32) ≤ -5 by decide), if_pos rfl]
      refine same w8 B1 w9 (-5) (by decide) (Or.inr (Or.inr rfl)) a2 a3 a4 fc8 a7 b2 fm9 _ ?_
      unfold bX11_joined_44 bX11_joined_74 bX11_joined_91
      rw [if_pos b2.2.2.1, if_pos rfl]
    | false =>
      rw [if_neg ff, if_pos (nI_ge0 (by omega)), if_neg (show ¬ nI s1 = -5 from fun q => by
        have h1 := congrArg Int32.toInt q
        rw [nI_toInt (by omega)] at h1
        have : (-5 : Int32).toInt = -5 := by decide
        omega)]
      have en1 := a4.1
      obtain ⟨d1, d2⟩ := cReduce (N := N) (d := dc) (way := 0) (ex := ex) (t := u) (w := w8) hN hex (Or.inl rfl) st2 a3 (gr.ext a4) (by omega) a2 (rc.k fc8) (by rw [a6.1 5 rfl]; exact s56) a7
      obtain ⟨n1, n2⟩ := mNormalOf (N := N) (d := dm) (ex := ex) (way := 0) (t := u) (w := w9) hN hex (Or.inl rfl) a3 (gr.ext a4) (by omega) b2 (rr.k fm9) (by rw [b6.1 5 rfl]; exact s57)
      cases hi2 : itr R ex 0 100 B1 u with
      | none =>
        obtain ⟨x8, B8, p1, p2, p3, p4, p5, p6⟩ := d2 hi2
        have p7 : eX3_reduce N (dc + 35) w8 (nI u) 0 = _ := p1
        obtain ⟨x9, z, q1, q2, ⟨B9, q3, q4, q5⟩, q6⟩ := n2 hi2
        have q7 : eX11_normalOf N (dm + 1037) w9 (nI u) 0 = _ := q1
        rw [p7, cl_s, if_neg (show ¬ (0 : Int32) ≤ -4 by decide), q7, cl_s]
        obtain ⟨c3, m3, B2, e1, e2, e3⟩ := full x8 B8 x9 p2 p3 (a4.tr p4) (fc8.tr p5.oc) p6 q2 ⟨B9, q3, a4.tr q4, q5⟩ (fm9.tr q6.om) (nI s1) z
        obtain ⟨h1, h2, h3, h4, h5, h6, h7⟩ := e3
        exact ⟨x8, c3, m3, -4, B2, rfl, e1, e2, h1, h2, h3, h4, h5, h6, h7, Or.inl rfl⟩
      | some r2 =>
        obtain ⟨B2, u2, l2⟩ := r2
        obtain ⟨x8, p1, p2, p3, p4, p5, p6, p7, p8, p9⟩ := d1 B2 u2 l2 hi2
        have p10 : eX3_reduce N (dc + 35) w8 (nI u) 0 = _ := p1
        obtain ⟨x9, q1, q2, q3, q4, q5, q6, q7, q8⟩ := n1 B2 u2 l2 hi2
        have q9 : eX11_normalOf N (dm + 1037) w9 (nI u) 0 = _ := q1
        have g21 := p3.1
        have fcx : Fr ocS ocA wc x8 := fc8.tr p6.oc
        have fmx : Fr omS omA wm x9 := fm9.tr q6.om
        have m5 : ∀ x, x < 1000 → ¬ nI x = (-5 : Int32) := fun x hx q => by
          have h1 := congrArg Int32.toInt q
          rw [nI_toInt (by omega)] at h1
          have : (-5 : Int32).toInt = -5 := by decide
          omega
        rw [p10, cl_s, q9, cl_s]
        cases hc2 : cnu B2 R ex u2 with
        | true =>
          rw [if_pos rfl, if_neg (show ¬ (0 : Int32) ≤ -5 by decide)]
          refine same x8 B2 x9 (-5) (by decide) (Or.inr (Or.inr rfl)) p2 p3 (a4.tr p4) fcx p7 q2 fmx _ ?_
          unfold bX11_joined_44 bX11_joined_74 bX11_joined_91
          rw [if_pos q2.2.2.1, if_neg (m5 s1 (by omega)), if_pos rfl]
        | false =>
          rw [if_neg ff, if_pos (nI_ge0 (by omega))]
          have h44 : bX11_joined_44 N (dm + 1037) x9 (nI (nB B)) (nI s1) (nI u2) = some (x9, if nI s1 = nI u2 then 1 else 0) := by
            unfold bX11_joined_44 bX11_joined_74 bX11_joined_91
            rw [if_pos q2.2.2.1, if_neg (m5 s1 (by omega)), if_neg (m5 u2 (by omega))]
            split <;> rfl
          by_cases q : nI s1 = nI u2
          · rw [if_pos q]
            exact same x8 B2 x9 1 (by decide) (Or.inr (Or.inl rfl)) p2 p3 (a4.tr p4) fcx p7 q2 fmx _ (by rw [h44, if_pos q])
          · rw [if_neg q]
            exact same x8 B2 x9 0 (by decide) (Or.inl rfl) p2 p3 (a4.tr p4) fcx p7 q2 fmx _ (by rw [h44, if_neg q])
theorem op_pair {N d : Nat} (hN : 2000000 ≤ N) : Op_pair N (d + 1040) II := by
  intro t wc wm x y ht600 h
  obtain ⟨B, R, G, gr, rb, rm, rc, rr, ru, rp, rt, rs0⟩ := id h
  obtain ⟨k, st, fs, p1, p2, p3, p4, p5, p6, p7⟩ := id rp
  have g1 := G.1
  have key : eX10_pair N (d + 1040) wc x y = bX10_pair_0 N (d + 1039) wc x y := rfl
  have key2 : eX11_pair N (d + 1040) wm x y = bX11_pair_0 N (d + 1039) wm x y := rfl
  have rm1 : RM B (pI wm 0 0) := rm
  have p61 : sI (pI wm 0 0) 13 = nI k := p6
  rw [key, key2]
  unfold bX10_pair_0 bX11_pair_0 bX10_pair_26 bX11_pair_33
  simp only [c_pi, c_nm]
  rw [iw_k k p3, cl_s, iw_k 6 (y := 6) rfl, cl_s, p61, in_n (by omega), cl_s, in_k 6 (y := 5) (by omega) (by decide), cl_s]
  rcases iw_cases (n := k) (by omega) x with ⟨i, hi, ei, qi⟩ | ⟨_, q⟩
  · rcases iw_cases (n := 6) (by omega) y with ⟨a, ha, ea, qa⟩ | ⟨_, q⟩
    · simp only [qi, qa, i10, if_false]
      obtain ⟨r1, r2, r3, r4, r5, ⟨s, s1, s2⟩, ⟨u, u1, u2⟩⟩ := p7 i hi
      have hix : sI wc 17 + nI i = nI (st + i) := by rw [p4, nI_add]
      have e1 : ∀ d2, eX2_firstOf N (d2 + 1) wc (nI i) = some (wc, nI s) := fun d2 => by
        show bX2_firstOf_0 N d2 wc (nI i) = _
        unfold bX2_firstOf_0
        rw [hix, ld_n (by omega) (by omega), r4, s2]
      have e2 : ∀ d2, eX2_secondOf N (d2 + 1) wc (nI i) = some (wc, nI u) := fun d2 => by
        show bX2_secondOf_0 N d2 wc (nI i) = _
        unfold bX2_secondOf_0
        rw [hix, ld_n (by omega) (by omega), r5, u2]
      have z25 : aI (pI wm 0 0) 25 i = nI s := s2
      have z26 : aI (pI wm 0 0) 26 i = nI u := u2
      have e1' : eX2_firstOf N (d + 1039) wc (nI i) = _ := e1 (d + 1038)
      have e2' : eX2_secondOf N (d + 1039) wc (nI i) = _ := e2 (d + 1038)
      rw [ei]
      by_cases a5 : a = 5
      · have y5 : (5 : Int32) ≤ y := by rw [ea, a5]; decide
        have ny : ¬ y = 0 ∧ ¬ y = 1 ∧ ¬ y = 2 ∧ ¬ y = 3 ∧ ¬ y = 4 := by
          rw [ea, a5]
          decide
        rw [if_pos y5, e1', cl_s, e2', cl_s, if_neg ny.1, if_neg ny.2.1, if_neg ny.2.2.1, if_neg ny.2.2.2.1, if_neg ny.2.2.2.2, ld_n (by omega) (by omega), z25, ld_n (by omega) (by omega), z26]
        obtain ⟨w10, c2, m2, v, B2, j1, j2, j3, j4, j5, j6, j7, j8, j9, j10, j11⟩ := join2 (N := N) (dc := d + 1003) (dm := d + 1) (ex := 2000) (wm := pI wm 0 0) hN (Or.inr rfl) ht600 G gr rb rm1 rc rr rs0 s1 u1
        have j12 : eX3_joins N (d + 1039) wc (nI s) (nI u) (-1) = _ := j1
        have j13 : eX10_undoIfFull N (d + 1039) w10 v (nI (nB B)) = _ := j2
        have j14 : eX11_joined N (d + 1039) (pI wm 0 0) (nI s) (nI u) (-1) = _ := j3
        rw [rb.2.1, j12, cl_s, j13, cl_s, j14, cl_s]
        have fm : Fr omS omA wm m2 := ((Fr.rf wm).pi rfl).tr j9
        exact ⟨c2, m2, _, rfl, rfl, II.fin gr rc rr rp rt j4 j5 j6 j7 j8.pc fm.pm (ru.k j8 fm) j10⟩
      · have y5 : ¬ (5 : Int32) ≤ y := by
          rw [ea, show (5 : Int32) = nI 5 from rfl, nI_leI (by omega) (by omega)]; omega
        have hrd : eX2_read N (d + 1039) wc (nI i) y = bX2_read_0 N (d + 1038) wc (nI i) y := rfl
        rw [if_neg y5, hrd]
        unfold bX2_read_0
        have e1'' : eX2_firstOf N (d + 1038) wc (nI i) = _ := e1 (d + 1037)
        have e2'' : eX2_secondOf N (d + 1038) wc (nI i) = _ := e2 (d + 1037)
        rw [hix, ld_n (by omega) (by omega), r1, ld_n (by omega) (by omega), r2, ll_n (by omega) (by omega), r3, e1'', cl_s, e2'', cl_s]
        have w22 : aI (pI wm 0 0) 22 i = aI wm 22 i := rfl
        have w23 : aI (pI wm 0 0) 23 i = aI wm 23 i := rfl
        have w24 : aL (pI wm 0 0) 24 i = aL wm 24 i := rfl
        rw [ld_n (by omega) (by omega), w22, ld_n (by omega) (by omega), w23, ll_n (by omega) (by omega), w24, ld_n (by omega) (by omega), z25, ld_n (by omega) (by omega), z26]
        have hy : y = 0 ∨ y = 1 ∨ y = 2 ∨ y = 3 ∨ y = 4 := by
          have : a = 0 ∨ a = 1 ∨ a = 2 ∨ a = 3 ∨ a = 4 := by omega
          rcases this with z | z | z | z | z
          · exact Or.inl (by rw [ea, z]; rfl)
          · exact Or.inr (Or.inl (by rw [ea, z]; rfl))
          · exact Or.inr (Or.inr (Or.inl (by rw [ea, z]; rfl)))
          · exact Or.inr (Or.inr (Or.inr (Or.inl (by rw [ea, z]; rfl))))
          · exact Or.inr (Or.inr (Or.inr (Or.inr (by rw [ea, z]; rfl))))
        by_cases y0 : y = 0
        · rw [if_pos y0, if_pos y0, cl_s]
          exact two_th rfl rfl h
        rw [if_neg y0, if_neg y0]
        by_cases y1 : y = 1
        · rw [if_pos y1, if_pos y1, cl_s]
          exact two_th rfl rfl h
        rw [if_neg y1, if_neg y1]
        by_cases y2 : y = 2
        · rw [if_pos y2, if_pos y2, cl_s]
          exact two_th rfl rfl h
        rw [if_neg y2, if_neg y2]
        by_cases y3 : y = 3
        · rw [if_pos y3, if_pos y3, cl_s]
          exact two_th rfl rfl h
        rw [if_neg y3, if_neg y3]
        have y4 : y = 4 := by
          rcases hy with z | z | z | z | z
          · exact absurd z y0
          · exact absurd z y1
          · exact absurd z y2
          · exact absurd z y3
          · exact z
        rw [if_pos y4, cl_s]
        exact two_th rfl rfl h
    · refine two_th (r := -2) ?_ ?_ h
      · simp only [qi, q, i10, if_true, if_false]
      · simp only [qi, q, i10, if_true, if_false]
  · refine two_th (r := -2) ?_ ?_ h
    · simp only [q, if_true]
    · simp only [q, if_true]
