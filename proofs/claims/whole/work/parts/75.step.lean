/-! the calls step and normal -/
abbrev ocS : Nat → Bool := fun k => k == 1 || k == 3 || k == 4 || k == 5 || k == 14
abbrev ocA : Nat → Bool := rdA
abbrev omS : Nat → Bool := fun k => k == 0 || k == 2 || k == 4 || k == 5 || k == 6 || k == 7 || k == 9
abbrev omA : Nat → Bool := stA
abbrev pcS : Nat → Bool := fun k => k == 1 || k == 3 || k == 4 || k == 5 || k == 13 || k == 14
abbrev pcA : Nat → Bool := fun k => (decide (13 < k) && decide (k < 23)) || (decide (25 < k) && decide (k < 30)) || (decide (40 < k) && decide (k < 45))
abbrev pmS : Nat → Bool := fun k => k == 0 || k == 2 || k == 4 || k == 5 || k == 6 || k == 7 || k == 8 || k == 9
abbrev pmA : Nat → Bool := fun k => (decide (2 < k) && decide (k < 9)) || (decide (11 < k) && decide (k < 19))
theorem Fr.oc {w w2 : Wd} (h : Fr rdS rdA w w2) : Fr ocS ocA w w2 := h.mn (fun k hk => by
    simp only [Bool.or_eq_false_iff] at hk ⊢
    exact ⟨⟨hk.1.1.1.1, hk.1.1.1.2⟩, hk.2⟩) (fun _ hk => hk)
theorem Fr.om {w w2 : Wd} (h : Fr ssS stA w w2) : Fr omS omA w w2 := h.mn (fun k hk => by
    simp only [Bool.or_eq_false_iff] at hk ⊢
    exact ⟨⟨⟨⟨hk.1.1.1.1.1.2, hk.1.1.1.1.2⟩, hk.1.1.2⟩, hk.1.2⟩, hk.2⟩) (fun _ hk => hk)
theorem Fr.pc {w w2 : Wd} (h : Fr ocS ocA w w2) : Fr pcS pcA w w2 := h.mn (fun k hk => by
    simp only [Bool.or_eq_false_iff] at hk ⊢
    exact ⟨hk.1.1, hk.2⟩) (fun k hk => by
    simp only [Bool.or_eq_false_iff, Bool.and_eq_false_iff, decide_eq_false_iff_not, beq_eq_false_iff_ne] at hk ⊢
    omega)
theorem Fr.pm {w w2 : Wd} (h : Fr omS omA w w2) : Fr pmS pmA w w2 := h.mn (fun k hk => by
    simp only [Bool.or_eq_false_iff] at hk ⊢
    exact ⟨hk.1.1, hk.2⟩) (fun k hk => by
    simp only [Bool.or_eq_false_iff, Bool.and_eq_false_iff, decide_eq_false_iff_not, beq_eq_false_iff_ne] at hk ⊢
    omega)
theorem II.fin {t : Nat} {B B2 : Bk} {R : Ru} {wc wm c2 m2 : Wd} (gr : GR B R) (rc : RRc R wc) (rr : RRm R wm) (rp : RP B wc wm) (rt : RT B wc wm) (G2 : GB B2) (e : Ext B B2) (rb2 : RB B2 c2) (rm2 : RM B2 m2) (fc : Fr pcS pcA wc c2) (fm : Fr pmS pmA wm m2) (ru2 : RU c2 m2) (rs2 : RS t c2) : II t c2 m2 :=
  ⟨B2, R, G2, gr.ext e, rb2, rm2, rc.k fc, rr.k fm, ru2, rp.k e.1 fc fm, rt.k e.2.1 fc fm, rs2⟩
theorem Kc.begin {B : Bk} {R : Ru} {ex t : Nat} {w w2 : Wd} (h : RS t w) (ht : t < 600) (h4 : sI w2 4 = sI w 4 + 1) (h26 : aI w2 26 = aI w 26) : ∃ st, st ≤ t + 1 ∧ st < 1000 ∧ Kc B R ex st w2 := by
  obtain ⟨⟨st, s1, s2, s3⟩, _⟩ := h
  refine ⟨st + 1, by omega, by omega, by rw [h4, s2, nI_1], fun j hj => ?_, fun u hu hz => ?_⟩
  · obtain ⟨c, c1, c2⟩ := s3 j hj
    exact ⟨c, by omega, by rw [h26]; exact c2⟩
  · obtain ⟨c, c1, c2⟩ := s3 u hu
    rw [h26, c2, nI_eq (by omega) (by omega)] at hz
    omega
theorem Kc.rs {B : Bk} {R : Ru} {ex t st : Nat} {w : Wd} (h : Kc B R ex st w) (hst : st ≤ t) (h38 : ∀ j, j < 1000 → aI w 38 j = 0) : RS t w := ⟨⟨st, hst, h.1, h.2.1⟩, h38⟩
theorem cReduce {B : Bk} {R : Ru} {N d ex way st t : Nat} {w : Wd} (hN : 2000000 ≤ N) (hex : ex < 16 ∨ ex = 2000) (hw : way = 0 ∨ way = 1) (hst : st < 1000) (G : GB B) (gr : GR B R) (ht : t < nB B) (rb : RB B w) (rc : RRc R w) (h5 : sI w 5 = eN ex) (ki : Kc B R ex st w) :
    (∀ B2 t2 l, itr R ex way 100 B t = some (B2, t2, l) → ∃ w2, eX3_reduce N (d + 35) w (nI t) (nI way) = some (w2, if cnu B2 R ex t2 = true then -5 else nI t2) ∧ RB B2 w2 ∧ GB B2 ∧ Ext B B2 ∧ t2 < nB B2 ∧ Fr rdS rdA w w2 ∧ Kc B2 R ex st w2 ∧ sI w2 14 = nI l.length ∧ NL (aI w2 43) (aL w2 44) 0 l) ∧
    (itr R ex way 100 B t = none → ∃ w2 B2, eX3_reduce N (d + 35) w (nI t) (nI way) = some (w2, -4) ∧ RB B2 w2 ∧ GB B2 ∧ Ext B B2 ∧ Fr rdS rdA w w2 ∧ Kc B2 R ex st w2) := by
  have key : eX3_reduce N (d + 35) w (nI t) (nI way) = fX3_reduce_13 N (d + 34) N (pI w 14 0) (nI way) (nI t) (nI 0) := rfl
  rw [key]
  have f0 : Fr rdS rdA w (pI w 14 0) := (Fr.rf w).pi rfl
  obtain ⟨s1, s2⟩ := cRed (R := R) (N := N) (d := d) (ex := ex) (way := way) (st := st) hN hex hw hst 100 0 N B t (pI w 14 0) G gr (by omega) (by omega) ht rb rc h5 ki rfl
  refine ⟨fun B2 t2 l h => ?_, fun h => ?_⟩
  · obtain ⟨w2, b1, b2, b3, b4, b5, b6, b7, b8, b9, b10⟩ := s1 B2 t2 l h
    rw [Nat.zero_add] at b8
    exact ⟨w2, b1, b2, b3, b4, b5, f0.tr b6, b7, b8, b9⟩
  · obtain ⟨w2, B2, b1, b2, b3, b4, b5, b6⟩ := s2 h
    exact ⟨w2, B2, b1, b2, b3, b4, f0.tr b5, b6⟩
theorem cCopy {N d c : Nat} {w : Wd} (h : sI w 14 = nI c) (hc : c ≤ 100) : ∃ f g, eX6_copyFrom_r8 N (d + 1) w = some (pB (pA (pI w 13 (nI c)) 41 f) 42 g) ∧ ∀ i, i < c → f i = aI w 43 i ∧ g i = aL w 44 i := by
  refine ⟨va_cpy (aI w 43) (aI w 41) 0 0 c, va_cpy (aL w 44) (aL w 42) 0 0 c, ?_, fun i hi => ⟨?_, ?_⟩⟩
  · show bX6_copyFrom_r8_0 N d w = _
    unfold bX6_copyFrom_r8_0 c_cp c_cq
    simp only [c_pi]
    have z1 : sI (pI w 13 (sI w 14)) 13 = nI c := h
    have z2 : ∀ f, sI (pA (pI w 13 (sI w 14)) 41 f) 13 = nI c := fun f => h
    rw [z1, z2, nI_clamp (by omega)]
    have hno : ¬ (nI c < 0 ∨ 100 < c ∨ 100 < c) := by
      rintro (z | z | z)
      · exact nI_pos (by omega) z
      · omega
      · omega
    rw [if_neg hno, if_neg hno, h]
    rfl
  · have := pk_cpy_in (f := aI w 43) (g := aI w 41) (sp := 0) (dp := 0) (n := c) (j := i) (by omega) (by omega)
    rw [this]
    congr 1
    omega
  · have := pk_cpy_in (f := aL w 44) (g := aL w 42) (sp := 0) (dp := 0) (n := c) (j := i) (by omega) (by omega)
    rw [this]
    congr 1
    omega
theorem mKeepL {N d c : Nat} (hc : c ≤ 100) : ∀ n j w, sI w 9 = nI c → j ≤ c → c < n + j → ∃ w2, fX11_keepUsed_10 N d n w (nI j) = some w2 ∧ Fr noS (fun k => k == 15 || k == 16) w w2 ∧ (∀ i, i < j → aI w2 15 i = aI w 15 i ∧ aL w2 16 i = aL w 16 i) ∧ ∀ i, j ≤ i → i < c → aI w2 15 i = aI w 17 i ∧ aL w2 16 i = aL w 18 i := by
  intro n
  induction n with
  | zero => intro j w _ h1 h2; omega
  | succ n ih =>
    intro j w h9 h1 h2
    have key : fX11_keepUsed_10 N d (n + 1) w (nI j) = bX11_keepUsed_10 N d (fX11_keepUsed_10 N d n) w (nI j) := rfl
    rw [key]
    unfold bX11_keepUsed_10
    simp only [c_nm]
    rw [h9]
    by_cases e : j = c
    · rw [if_pos ((nI_leI (by omega) (by omega)).mpr (by omega))]
      exact ⟨w, rfl, Fr.rf w, fun _ _ => ⟨rfl, rfl⟩, fun i h3 h4 => by omega⟩
    · rw [if_neg (fun z => by rw [nI_leI (by omega) (by omega)] at z; omega), ld_n (by omega) (by omega), st_n (by omega) (by omega), ll_n (by omega) (by omega), sl_n (by omega) (by omega), nI_1]
      generalize hw5 : pB (pA w 15 (upd (aI w 15) j (aI w 17 j))) 16 (vp_updL (aL (pA w 15 (upd (aI w 15) j (aI w 17 j))) 16) j (aL (pA w 15 (upd (aI w 15) j (aI w 17 j))) 18 j)) = w5
      have e15 : aI w5 15 = upd (aI w 15) j (aI w 17 j) := by rw [← hw5]; rfl
      have e16 : aL w5 16 = vp_updL (aL w 16) j (aL w 18 j) := by rw [← hw5]; rfl
      have e17 : aI w5 17 = aI w 17 := by rw [← hw5]; rfl
      have e18 : aL w5 18 = aL w 18 := by rw [← hw5]; rfl
      have fr5 : Fr noS (fun k => k == 15 || k == 16) w w5 := by rw [← hw5]; exact ((Fr.rf w).pa rfl).pb rfl
      obtain ⟨w2, r1, r2, r3, r4⟩ := ih (j + 1) w5 (by rw [fr5.1 9 rfl]; exact h9) (by omega) (by omega)
      refine ⟨w2, r1, fr5.tr r2, fun i hi => ?_, fun i h3 h4 => ?_⟩
      · have := r3 i (by omega)
        rw [this.1, this.2, e15, e16, upd_n (by omega), updL_n (by omega)]
        exact ⟨rfl, rfl⟩
      · by_cases ei : i = j
        · have := r3 i (by omega)
          rw [this.1, this.2, e15, e16, ei, upd_s, updL_s]
          exact ⟨rfl, rfl⟩
        · have := r4 i (by omega) h4
          rw [this.1, this.2, e17, e18]
          exact ⟨rfl, rfl⟩
theorem mKeep {N d c : Nat} {w : Wd} (hN : 2000000 ≤ N) (hc : c ≤ 100) (h9 : sI w 9 = nI c) : ∃ w2, eX11_keepUsed N (d + 1) w = some w2 ∧ Fr (fun k => k == 8) (fun k => k == 15 || k == 16) w w2 ∧ sI w2 8 = nI c ∧ ∀ i, i < c → aI w2 15 i = aI w 17 i ∧ aL w2 16 i = aL w 18 i := by
  have key : eX11_keepUsed N (d + 1) w = fX11_keepUsed_10 N d N (pI w 8 (sI w 9)) (nI 0) := rfl
  rw [key]
  obtain ⟨w2, r1, r2, r3, r4⟩ := mKeepL (N := N) (d := d) hc N 0 (pI w 8 (sI w 9)) h9 (by omega) (by omega)
  refine ⟨w2, r1, ((Fr.rf w).pi rfl).tr (r2.mn (fun _ _ => rfl) (fun _ hk => hk)), by rw [r2.1 8 rfl]; exact h9, fun i hi => r4 i (Nat.zero_le _) hi⟩
/-- both keep the steps -/
theorem RU.of {w7 w8 c2 m2 : Wd} {l : List (Nat × Int64)} (hl : l.length ≤ 100) (n1 : NL (aI w7 43) (aL w7 44) 0 l) (n2 : NL (aI w8 17) (aL w8 18) 0 l) (hc : sI c2 13 = nI l.length) (hm : sI m2 8 = nI l.length) (ec : ∀ i, i < l.length → aI c2 41 i = aI w7 43 i ∧ aL c2 42 i = aL w7 44 i) (em : ∀ i, i < l.length → aI m2 15 i = aI w8 17 i ∧ aL m2 16 i = aL w8 18 i) : RU c2 m2 := by
  refine ⟨l.length, hl, hc, hm, fun i hi => ?_⟩
  have hx : l[i]? = some (l[i]'hi) := List.getElem?_eq_getElem hi
  have a := n1 i _ hx
  have b := n2 i _ hx
  rw [Nat.zero_add] at a b
  rw [(ec i hi).1, (ec i hi).2, (em i hi).1, (em i hi).2, a.1, a.2, b.1, b.2]
  exact ⟨rfl, rfl⟩
theorem mRefuse {B B2 : Bk} {N d : Nat} {w : Wd} (e : Ext B B2) (rm : RM B2 (pI w 4 0)) : eX11_refuse N (d + 1) w (nI (nB B)) = some (pI (pI w 4 0) 2 (nI (nB B)), -4) ∧ RM B (pI (pI w 4 0) 2 (nI (nB B))) := ⟨rfl, RM.cut e rm rfl rfl rfl (fun _ _ => ⟨rfl, rfl⟩)⟩
theorem m54 {x : Nat} (h : x < 1000) (c : Bool) : ¬ (if c = true then (-5 : Int32) else nI x) = -4 := by
  cases c with
  | true => rw [if_pos rfl]; decide
  | false => rw [if_neg ff]; exact nI_m4 (by omega)
theorem op_normal {N d : Nat} (hN : 2000000 ≤ N) : Op_normal N (d + 1040) II := by
  intro t wc wm x y ht600 h
  obtain ⟨B, R, G, gr, rb, rm, rc, rr, ru, rp, rt, rs⟩ := id h
  have g1 := G.1
  have key : eX10_normal N (d + 1040) wc x y = bX10_normal_0 N (d + 1039) wc x y := rfl
  have key2 : eX11_normal N (d + 1040) wm x y = bX11_normal_0 N (d + 1039) wm x y := rfl
  have rm1 : RM B (pI wm 0 0) := rm
  rw [key, key2]
  unfold bX10_normal_0 bX11_normal_0 bX10_normal_16 bX11_normal_23
  simp only [c_pi, c_nm]
  rw [cIsTerm rb, cl_s, mIsTerm G rm1, cl_s, iw_k 2 (y := 2) rfl, cl_s, in_k 2 (y := 1) (by omega) (by decide), cl_s]
  rcases iw_cases (n := nB B) (by omega) x with ⟨k, hk, ek, qk⟩ | ⟨_, q⟩
  · rcases iw_cases (n := 2) (by omega) y with ⟨way, hw, ew, qw⟩ | ⟨_, q⟩
    · simp only [qk, qw, i10, if_false]
      rw [ek, ew, rb.2.1, rm1.2.1]
      -- the class
      have eb : eX3_begin N (d + 1039) wc (-1) = some (pI (pI wc 4 (sI wc 4 + 1)) 5 (-1)) := rfl
      rw [eb, cv_s]
      generalize hw6 : pI (pI wc 4 (sI wc 4 + 1)) 5 (-1) = w6
      have f6 : Fr ocS ocA wc w6 := by rw [← hw6]; exact ((Fr.rf wc).pi rfl).pi rfl
      obtain ⟨st, st1, st2, ki6⟩ := Kc.begin (B := B) (R := R) (ex := 2000) (w2 := w6) rs ht600 (by rw [← hw6]; rfl) (by rw [← hw6]; rfl)
      have rb6 : RB B w6 := by rw [← hw6]; exact rb
      have rc6 : RRc R w6 := by rw [← hw6]; exact rc
      obtain ⟨c1, c2⟩ := cReduce (N := N) (d := d + 1004) (way := way) hN (Or.inr rfl) (by omega) st2 G gr hk rb6 rc6 (by rw [← hw6]; rfl) ki6
      -- the reference
      generalize hw7 : pI (pI wm 0 0) 5 (-1) = w7
      have f7 : Fr omS omA wm w7 := by rw [← hw7]; exact ((Fr.rf wm).pi rfl).pi rfl
      have rm7 : RM B w7 := by rw [← hw7]; exact rm
      have rr7 : RRm R w7 := by rw [← hw7]; exact rr
      obtain ⟨m1, m2⟩ := mNormalOf (N := N) (d := d + 2) (ex := 2000) (way := way) (w := w7) hN (Or.inr rfl) (by omega) G gr hk rm7 rr7 (by rw [← hw7]; rfl)
      have s38 : ∀ j, j < 1000 → aI w6 38 j = 0 := by rw [(f6.2 38 rfl).1]; exact rs.2
      cases hi : itr R 2000 way 100 B k with
      | none =>
        obtain ⟨w8, B8, a1, a2, a3, a4, a5, a6⟩ := c2 hi
        have a7 : eX3_reduce N (d + 1039) w6 (nI k) (nI way) = _ := a1
        obtain ⟨w9, z, b1, b2, ⟨B9, b3, b4, b5⟩, b6⟩ := m2 hi
        have b7 : eX11_normalOf N (d + 1039) w7 (nI k) (nI way) = _ := b1
        obtain ⟨w10, s1, s2, s3⟩ := cShrink (N := N) (d := d + 1035) a3 a4 a2 hN
        have e1 : eX10_keepSteps N (d + 1039) w8 (-4) (nI (nB B)) = some (w10, -4) := by
          show bX10_keepSteps_0 N (d + 1038) w8 (-4) (nI (nB B)) = _
          unfold bX10_keepSteps_0 bX10_keepSteps_20
          rw [if_pos rfl]
          have : eX10_undoIfFull N (d + 1038) w8 (-4) (nI (nB B)) = some (w10, -4) := by
            show bX10_undoIfFull_0 N (d + 1037) w8 (-4) (nI (nB B)) = _
            unfold bX10_undoIfFull_0 bX10_undoIfFull_14
            have s4 : eX8_shrinkTo N (d + 1037) w8 (nI (nB B)) = _ := s1
            rw [if_pos rfl, s4, cv_s]
          rw [this, cl_s]
        rw [a7, cl_s, e1, cl_s, b7, cl_s, if_neg b2, (mRefuse (N := N) (d := d + 1038) b4 b5).1, cl_s]
        have fc : Fr ocS ocA wc w10 := f6.tr (a5.oc.tr s3.rd.oc)
        have fm : Fr omS omA wm (pI (pI w9 4 0) 2 (nI (nB B))) := ((f7.tr b6.om).pi rfl).pi rfl
        refine ⟨w10, _, -4, rfl, rfl, II.fin gr rc rr rp rt G (Ext.rf B) s2 (mRefuse (N := N) (d := d) b4 b5).2 fc.pc fm.pm (ru.k fc fm) ?_⟩
        refine Kc.rs (B := B8) (R := R) (ex := 2000) (st := st) ⟨?_, ?_, ?_⟩ st1 ?_
        · rw [s3.1 4 (by omega)]; exact a6.1
        · rw [(s3.2.1 26 (by omega)).1]; exact a6.2.1
        · rw [(s3.2.1 26 (by omega)).1]; exact a6.2.2
        · rw [(fc.2 38 rfl).1]; exact rs.2
      | some r =>
        obtain ⟨B2, t2, l⟩ := r
        obtain ⟨w8, a1, a2, a3, a4, a5, a6, a7, a8, a9⟩ := c1 B2 t2 l hi
        have a10 : eX3_reduce N (d + 1039) w6 (nI k) (nI way) = _ := a1
        obtain ⟨w9, b1, b2, b3, b4, b5, b6, b7, b8⟩ := m1 B2 t2 l hi
        have b9 : eX11_normalOf N (d + 1039) w7 (nI k) (nI way) = _ := b1
        have hl := (itr_end 100 B k B2 t2 l hi).1
        have g21 := a3.1
        obtain ⟨f, g, o1, o2⟩ := cCopy (N := N) (d := d + 1037) a8 hl
        obtain ⟨w10, p1, p2, p3, p4⟩ := mKeep (N := N) (d := d + 1038) hN hl b7
        have nfull := m54 (x := t2) (by omega) (cnu B2 R 2000 t2)
        have e1 : ∀ z, ¬ z = -4 → eX10_keepSteps N (d + 1039) w8 z (nI (nB B)) = some (pB (pA (pI w8 13 (nI l.length)) 41 f) 42 g, z) := fun z hz => by
          show bX10_keepSteps_0 N (d + 1038) w8 z (nI (nB B)) = _
          unfold bX10_keepSteps_0 bX10_keepSteps_20
          rw [if_neg hz, o1, cv_s]
          have : ∀ w, eX10_undoIfFull N (d + 1038) w z (nI (nB B)) = some (w, z) := fun w => by
            show bX10_undoIfFull_0 N (d + 1037) w z (nI (nB B)) = _
            unfold bX10_undoIfFull_0 bX10_undoIfFull_14
            rw [if_neg hz]
          rw [this, cl_s]
        rw [a10, cl_s, e1 _ nfull, cl_s, b9, cl_s, if_pos b2.2.2.1, p1, cv_s]
        have fc8 : Fr pcS pcA wc w8 := (f6.tr a6.oc).pc
        have fc : Fr pcS pcA wc (pB (pA (pI w8 13 (nI l.length)) 41 f) 42 g) := ((fc8.pi rfl).pa rfl).pb rfl
        have p2m : Fr pmS pmA w9 w10 := p2.mn (fun k hk => by
          simp only [Bool.or_eq_false_iff] at hk
          exact hk.1.2) (fun k hk => by
          simp only [Bool.or_eq_false_iff, Bool.and_eq_false_iff, decide_eq_false_iff_not, beq_eq_false_iff_ne] at hk ⊢
          omega)
        have fm : Fr pmS pmA wm w10 := (f7.pm.tr b6.om.pm).tr p2m
        refine ⟨_, w10, _, rfl, rfl, II.fin gr rc rr rp rt a3 a4 a2 (b2.k p2) fc fm (RU.of (w7 := w8) (w8 := w9) hl a9 b8 rfl p3 o2 p4) ?_⟩
        refine Kc.rs (B := B2) (R := R) (ex := 2000) (st := st) a7 st1 ?_
        rw [(fc.2 38 rfl).1]; exact rs.2
    · refine two_th (r := -2) ?_ ?_ h
      · simp only [qk, q, i10, if_true, if_false]
      · simp only [qk, q, i10, if_true, if_false]
  · refine two_th (r := -2) ?_ ?_ h
    · simp only [q, if_true]
    · simp only [q, if_true]
