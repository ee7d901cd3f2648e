/-! the reference changes -/
abbrev chS : Nat → Bool := fun k => k == 2 || k == 4 || k == 7
abbrev chA : Nat → Bool := fun k => (decide (2 < k) && decide (k < 9)) || k == 12
theorem FrO.ch {w w2 : Wd} (h : FrO w w2) : Fr chS chA w w2 := ⟨fun k hk => h.1 k (fun z => by rw [z] at hk; cases hk) (fun z => by rw [z] at hk; cases hk), fun k hk => h.2.1 k (by
  simp only [Bool.or_eq_false_iff, Bool.and_eq_false_iff, decide_eq_false_iff_not] at hk
  omega)⟩
def ChS (B : Bk) (w w2 : Wd) (B2 : Bk) (z r : Nat) (q : Int64) : Prop := RM B2 w2 ∧ GB B2 ∧ Ext B B2 ∧ z < nB B2 ∧ sI w2 7 = nI r ∧ sL w2 0 = q ∧ Fr chS chA w w2
def ChN (B : Bk) (w w2 : Wd) : Prop := ¬ sI w2 4 = 0 ∧ (∃ B2, GB B2 ∧ Ext B B2 ∧ RM B2 (pI w2 4 0)) ∧ Fr chS chA w w2
theorem mChanged {B : Bk} {R : Ru} (G : GB B) (gr : GR B R) {N ex way : Nat} (hN : 2000000 ≤ N) (hw : way = 0 ∨ way = 1) {w : Wd} (rm : RM B w) (rr : RRm R w) (ci : CI B R ex w) (h6 : sI w 6 = nI way) : ∀ k d t p, t < k → t < nB B → aI w 13 t ≠ 0 → cnu B R ex t = true → ∀ σ, mt B (R.2.1 (RA B R ex (ptu B R ex way t).2)) (ptu B R ex way t).2 = some σ →
    (∀ B2 z, reb B (ptu B R ex way t).1 (fl B σ 30 B (R.2.2.1 (RA B R ex (ptu B R ex way t).2))) = some (B2, z) → ∃ w2, eX11_changed N (d + k + 33) w (nI t) p = some (w2, nI z) ∧ ChS B w w2 B2 z (RA B R ex (ptu B R ex way t).2) (plc p (ptu B R ex way t).1)) ∧
    (reb B (ptu B R ex way t).1 (fl B σ 30 B (R.2.2.1 (RA B R ex (ptu B R ex way t).2))) = none → ∃ w2 y, eX11_changed N (d + k + 33) w (nI t) p = some (w2, y) ∧ ChN B w w2) := by
  have g1 := G.1
  have gr1 := gr.1
  intro k
  induction k with
  | zero => intro d t p h; omega
  | succ k ih =>
    intro d t p hk ht h13 hc σ hσ
    have key : eX11_changed N (d + (k + 1) + 33) w (nI t) p = bX11_changed_0 N (d + k + 33) (eX11_changed N (d + k + 33)) w (nI t) p := rfl
    have hnp := G.np ht
    have hal := G.a_le ht
    obtain ⟨c1, c2, c3, c4⟩ := (ci t ht).resolve_left h13
    have hin := RA_in B R ex t
    have hcnu := cnu_iff G (R := R) (ex := ex) ht
    have hpt := ptu_eq G (R := R) (ex := ex) (way := way) ht
    have hwN : nI way = 0 ↔ way = 0 := by rw [show (0 : Int32) = nI 0 from rfl, nI_eq (by omega) (by omega)]
    have canv : ∀ x, x < nB B → aI w 13 x ≠ 0 → (aI w 13 x = 1 ↔ cnu B R ex x = true) := fun x hx h0 => by
      rw [((ci x hx).resolve_left h0).1]
      by_cases q : cnu B R ex x = true
      · rw [if_pos q]; exact ⟨fun _ => q, fun _ => rfl⟩
      · rw [if_neg q]; exact ⟨fun z => absurd z (by decide), fun z => absurd z q⟩
    -- the step is done here
    have here : ptu B R ex way t = ([], t) →
        (∀ B2 z, reb B (ptu B R ex way t).1 (fl B σ 30 B (R.2.2.1 (RA B R ex (ptu B R ex way t).2))) = some (B2, z) → ∃ w2, bX11_changed_126 N (d + k + 33) (eX11_changed N (d + k + 33)) w (nI t) p = some (w2, nI z) ∧ ChS B w w2 B2 z (RA B R ex (ptu B R ex way t).2) (plc p (ptu B R ex way t).1)) ∧
        (reb B (ptu B R ex way t).1 (fl B σ 30 B (R.2.2.1 (RA B R ex (ptu B R ex way t).2))) = none → ∃ w2 y, bX11_changed_126 N (d + k + 33) (eX11_changed N (d + k + 33)) w (nI t) p = some (w2, y) ∧ ChN B w w2) := by
      intro hp
      have hra : RA B R ex t ≠ 2000 := by
        have := (ptu_ok G (R := R) (ex := ex) (way := way) (t + 1) t (by omega) ht hc).2.2.1
        rw [hp] at this
        exact this
      rw [hp] at hσ ⊢
      have hr : RA B R ex t < R.1 := (RA_mt hra).1
      obtain ⟨a1, a2, a3, a4, a5, a6, a7⟩ := gr.2 _ hr
      have vok := mt_ok G gr hr ht hσ
      unfold bX11_changed_126
      simp only [c_pi, c_pl]
      rw [ld_n (by omega) (by omega), c2, eN_n (by omega)]
      generalize hw6 : pL (pI w 7 (nI (RA B R ex t))) 0 p = w6
      have r6 : RM B w6 := by rw [← hw6]; exact rm
      have rr6 : RRm R w6 := by rw [← hw6]; exact rr
      have s7 : sI w6 7 = nI (RA B R ex t) := by rw [← hw6]; rfl
      have sl6 : sL w6 0 = p := by rw [← hw6]; rfl
      have fr6 : Fr chS chA w w6 := by rw [← hw6]; exact ((Fr.rf w).pi rfl).pl
      rw [s7, ld_n (by omega) (by omega), (rr6.2 _ hr).1]
      obtain ⟨f, f1, f2⟩ := mFits G (N := N) (d := d + k) hN r6 a1 ht a4
      obtain ⟨f3, f4⟩ := f1 σ hσ
      have f5 : eX11_fits N (d + k + 33) w6 (nI (R.2.1 (RA B R ex t))) (nI t) = _ := f3
      rw [f5, cl_s]
      have r8 : RM B (pA w6 12 f) := r6
      have rr8 : RRm R (pA w6 12 f) := rr6
      have s78 : sI (pA w6 12 f) 7 = nI (RA B R ex t) := s7
      rw [s78, ld_n (by omega) (by omega), (rr8.2 _ hr).2.1]
      obtain ⟨m1, m2⟩ := mFill G (N := N) (σ := σ) hN 30 (d + k + 1) (R.2.2.1 (RA B R ex t)) B (pA w6 12 f) G (Ext.rf B) r8 a2 a5 (by omega) (fun v hv => by rw [aI_pA, if_pos rfl]; exact f4 v hv) vok.2
      have fr8 : Fr chS chA w (pA w6 12 f) := fr6.pa rfl
      refine ⟨fun B2 z h => ?_, fun h => ?_⟩
      · obtain ⟨w2, n1, n2, n3⟩ := m1 B2 z h
        obtain ⟨o1, o2, o3⟩ := fl_ok G 30 B _ B2 z G (Ext.rf B) a2 vok.2 h
        have n4 : eX11_filled N (d + k + 33) (pA w6 12 f) (nI (R.2.2.1 (RA B R ex t))) = _ := n1
        rw [n4, cl_s]
        exact ⟨w2, rfl, n2, o1, o2, o3, by rw [n3.1 7 (by omega)]; exact s78, by rw [n3.2.2 0]; exact sl6, fr8.tr n3.o.ch⟩
      · obtain ⟨w2, y, n1, n2⟩ := m2 h
        have n4 : eX11_filled N (d + k + 33) (pA w6 12 f) (nI (R.2.2.1 (RA B R ex t))) = _ := n1
        rw [n4, cl_s]
        exact ⟨w2, y, rfl, n2.1, n2.2.1, fr8.tr n2.2.2.ch⟩
    -- the step is done in a part
    have inpart : ∀ i q, (i = 0 ∧ 1 ≤ npB B t ∧ q = aB B t ∨ i = 1 ∧ 2 ≤ npB B t ∧ q = bB B t) → q < nB B → q < t → cnu B R ex q = true → ptu B R ex way t = ((t, i) :: (ptu B R ex way q).1, (ptu B R ex way q).2) → aI w 13 q ≠ 0 →
        ∀ X, X = (c_cl (eX11_below N (d + k + 33) w p (nI i)) fun w17 v18 => c_cl (eX11_changed N (d + k + 33) w17 (nI q) v18) fun w19 v20 => c_ld w19 3 1000 (nI t) fun v21 => if nI i = 0 then bX11_changed_99 N (d + k + 33) (eX11_changed N (d + k + 33)) w19 (nI t) (nI i) v20 v21 v20 else c_ld w19 4 1000 (nI t) fun v22 => bX11_changed_99 N (d + k + 33) (eX11_changed N (d + k + 33)) w19 (nI t) (nI i) v20 v21 v22) →
        (∀ B2 z, reb B (ptu B R ex way t).1 (fl B σ 30 B (R.2.2.1 (RA B R ex (ptu B R ex way t).2))) = some (B2, z) → ∃ w2, X = some (w2, nI z) ∧ ChS B w w2 B2 z (RA B R ex (ptu B R ex way t).2) (plc p (ptu B R ex way t).1)) ∧
        (reb B (ptu B R ex way t).1 (fl B σ 30 B (R.2.2.1 (RA B R ex (ptu B R ex way t).2))) = none → ∃ w2 y, X = some (w2, y) ∧ ChN B w w2) := by
      intro i q hi hq hqt hcq hp hq13 X hX
      rw [hp] at hσ ⊢
      have hb : eX11_below N (d + k + 33) w p (nI i) = some (w, blw p (nI i)) := mBelow
      obtain ⟨i1, i2⟩ := ih d q (blw p (nI i)) (by omega) hq hq13 hcq σ hσ
      have hre : reb B ((t, i) :: (ptu B R ex way q).1) (fl B σ 30 B (R.2.2.1 (RA B R ex (ptu B R ex way q).2))) = stepM B (t, i) (reb B (ptu B R ex way q).1 (fl B σ 30 B (R.2.2.1 (RA B R ex (ptu B R ex way q).2)))) := rfl
      rw [hb, cl_s] at hX
      rw [hX, hre]
      have hiN : nI i = 0 ↔ i = 0 := by rw [show (0 : Int32) = nI 0 from rfl, nI_eq (by omega) (by omega)]
      have hiN1 : nI i = 1 ↔ i = 1 := by rw [show (1 : Int32) = nI 1 from rfl, nI_eq (by omega) (by omega)]
      cases hr : reb B (ptu B R ex way q).1 (fl B σ 30 B (R.2.2.1 (RA B R ex (ptu B R ex way q).2))) with
      | none =>
        obtain ⟨w2, y, j1, j2⟩ := i2 hr
        refine ⟨fun B2 z h => (by cases h), fun _ => ⟨w2, -1, ?_, j2⟩⟩
        rw [j1, cl_s, ld_n (by omega) (by omega)]
        have ov : ∀ a b c, eX11_make N (d + k + 33) w2 a b c = some (w2, -1) := fun a b c => mMakeOver j2.1
        have o116 : ∀ a b c, bX11_changed_116 N (d + k + 33) (eX11_changed N (d + k + 33)) w2 a b c = some (w2, -1) := fun a b c => by
          unfold bX11_changed_116
          rw [ov, cl_s]
        have o99 : ∀ a b c, bX11_changed_99 N (d + k + 33) (eX11_changed N (d + k + 33)) w2 (nI t) (nI i) a b c = some (w2, -1) := fun a b c => by
          unfold bX11_changed_99
          split
          · exact o116 _ _ _
          · rw [ld_n (by omega) (by omega)]; exact o116 _ _ _
        split
        · exact o99 _ _ _
        · rw [ld_n (by omega) (by omega)]; exact o99 _ _ _
      | some x =>
        obtain ⟨B3, c⟩ := x
        obtain ⟨w2, j1, j2, j3, j4, j5, j6, j7, j8⟩ := i1 B3 c hr
        have en := j4.1
        have g31 := j3.1
        have et := j4.2.2.2.2 t ht
        have hrw := j2.2.2.2.2.1 t (by omega)
        rw [et.1, et.2.1, et.2.2.1] at hrw
        have hvn := stepM_ok G (x := (t, i)) (B2 := B) (y := 0) j3 j4 j5 ⟨ht, by rcases hi with z | z; exact Or.inl ⟨z.1, z.2.1⟩; exact Or.inr ⟨z.1, z.2.1⟩⟩
        obtain ⟨m1, m2⟩ := mMk (N := N) (d := d + k + 31) j3 j2 hN hvn (x2 := eN (if i = 0 then c else aB B t)) (x3 := eN (if i = 0 then bB B t else c)) (fun _ => rfl) (fun _ => rfl)
        have hst : stepM B (t, i) (some (B3, c)) = mkB B3 (hB B t) (if i = 0 then c else aB B t) (if i = 0 then bB B t else c) := rfl
        have it : (c_cl (eX11_changed N (d + k + 33) w (nI q) (blw p (nI i))) fun w19 v20 => c_ld w19 3 1000 (nI t) fun v21 => if nI i = 0 then bX11_changed_99 N (d + k + 33) (eX11_changed N (d + k + 33)) w19 (nI t) (nI i) v20 v21 v20 else c_ld w19 4 1000 (nI t) fun v22 => bX11_changed_99 N (d + k + 33) (eX11_changed N (d + k + 33)) w19 (nI t) (nI i) v20 v21 v22) = c_cl (eX11_make N (d + k + 33) w2 (sg (hB B t)) (eN (if i = 0 then c else aB B t)) (eN (if i = 0 then bB B t else c))) fun w24 v25 => some (w24, v25) := by
          rw [j1, cl_s, ld_n (by omega) (by omega), hrw.1]
          unfold bX11_changed_99 bX11_changed_116
          rcases hi with ⟨z1, z2, z3⟩ | ⟨z1, z2, z3⟩
          · rw [if_pos (hiN.mpr z1), if_neg (fun z => by rw [hiN1] at z; omega), ld_n (by omega) (by omega), hrw.2.2.1, if_pos z1, if_pos z1, eN_n (show c < 2000 by omega)]
          · rw [if_neg (fun z => by rw [hiN] at z; omega), ld_n (by omega) (by omega), hrw.2.1, if_pos (hiN1.mpr z1), if_neg (show ¬ i = 0 by omega), if_neg (show ¬ i = 0 by omega), eN_n (show c < 2000 by omega)]
        rw [it, hst]
        refine ⟨fun B2 z h => ?_, fun h => ?_⟩
        · obtain ⟨w4, n1, n2, n3⟩ := m1 B2 z h
          obtain ⟨o1, o2, o3, _⟩ := mkB_ok j3 hvn h
          have n4 : eX11_make N (d + k + 33) w2 (sg (hB B t)) (eN (if i = 0 then c else aB B t)) (eN (if i = 0 then bB B t else c)) = _ := n1
          rw [n4, cl_s]
          exact ⟨w4, rfl, n2, o1, j4.tr o2, o3, by rw [n3.1 7 (by omega)]; exact j6, by rw [n3.2.2 0]; exact j7, j8.tr n3.o.ch⟩
        · have n4 : eX11_make N (d + k + 33) w2 (sg (hB B t)) (eN (if i = 0 then c else aB B t)) (eN (if i = 0 then bB B t else c)) = _ := m2 h
          rw [n4, cl_s]
          have ov := Ov.pre (w := w2) (w1 := w2) (Ext.rf B3) (FrO.rf w2) (Ov.mk (w1 := w2) j3 j2)
          obtain ⟨o1, ⟨B4, o2, o3, o4⟩, o5⟩ := ov
          exact ⟨_, _, rfl, o1, ⟨B4, o2, j4.tr o3, o4⟩, j8.tr o5.ch⟩
    rw [key]
    unfold bX11_changed_0 bX11_changed_21 bX11_changed_22
    rw [ld_n (by omega) (by omega), c2, h6]
    have parts : ∀ n x4 j, fX11_changed_27 N (d + k + 33) (eX11_changed N (d + k + 33)) (n + 1) w (nI t) p x4 j = bX11_changed_27 N (d + k + 33) (eX11_changed N (d + k + 33)) (fX11_changed_27 N (d + k + 33) (eX11_changed N (d + k + 33)) n) w (nI t) p x4 j := fun n x4 j => rfl
    obtain ⟨N2, hN2⟩ : ∃ N2, N = N2 + 1 + 1 + 1 := ⟨N - 3, by omega⟩
    have hN3 : ∀ x4, fX11_changed_27 N (d + k + 33) (eX11_changed N (d + k + 33)) N w (nI t) p x4 0 = fX11_changed_27 N (d + k + 33) (eX11_changed N (d + k + 33)) (N2 + 1 + 1 + 1) w (nI t) p x4 (nI 0) := fun x4 => by rw [← hN2]; rfl
    by_cases q0 : way = 0 ∧ RA B R ex t ≠ 2000
    · rw [if_pos q0] at hpt
      rw [if_neg (eN_m1 (by omega)), if_pos (hwN.mpr q0.1), hN3, parts]
      unfold bX11_changed_27
      rw [mParts G rm ht, cl_s]
      by_cases n1 : 1 ≤ npB B t
      · rw [if_neg (fun z => by rw [nI_leI (by omega) (by omega)] at z; omega), if_neg i10]
        exact here hpt
      · rw [if_pos ((nI_leI (by omega) (by omega)).mpr (by omega))]
        exact here hpt
    · rw [if_neg q0] at hpt
      have flag : (if eN (RA B R ex t) = -1 then fX11_changed_27 N (d + k + 33) (eX11_changed N (d + k + 33)) N w (nI t) p 0 0 else if nI way = 0 then fX11_changed_27 N (d + k + 33) (eX11_changed N (d + k + 33)) N w (nI t) p 1 0 else fX11_changed_27 N (d + k + 33) (eX11_changed N (d + k + 33)) N w (nI t) p 0 0) = fX11_changed_27 N (d + k + 33) (eX11_changed N (d + k + 33)) (N2 + 1 + 1 + 1) w (nI t) p 0 (nI 0) := by
        by_cases z : RA B R ex t = 2000
        · rw [if_pos (by rw [z]; rfl), hN3]
        · rw [if_neg (eN_m1 (by omega)), if_neg (fun y => q0 ⟨hwN.mp y, z⟩), hN3]
      rw [flag, parts]
      unfold bX11_changed_27
      simp only [c_nm]
      rw [mParts G rm ht, cl_s]
      by_cases n1 : 1 ≤ npB B t
      · have la := hnp.2.2.1 n1
        have e0 : eX11_partOf N (d + k + 33) w (nI t) (nI 0) = some (w, eN (aB B t)) := mPartOf0 G rm ht
        rw [if_neg (fun z => by rw [nI_leI (by omega) (by omega)] at z; omega), if_pos True.intro, e0, cl_s, eN_n (by omega), ld_n (by omega) (by omega)]
        have hva := canv (aB B t) (by omega) (c3 n1)
        by_cases qa : cnu B R ex (aB B t) = true
        · rw [if_pos ⟨n1, qa⟩] at hpt
          rw [if_pos (hva.mpr qa)]
          exact inpart 0 (aB B t) (Or.inl ⟨rfl, n1, rfl⟩) (by omega) la qa hpt (c3 n1) _ rfl
        · rw [if_neg (fun z => qa z.2)] at hpt
          rw [if_neg (fun z => qa (hva.mp z)), nI_1, parts]
          unfold bX11_changed_27
          simp only [c_nm]
          rw [mParts G rm ht, cl_s]
          by_cases n2 : 2 ≤ npB B t
          · have lb := hnp.2.2.2.1 n2
            have e1 : eX11_partOf N (d + k + 33) w (nI t) (nI (0 + 1)) = some (w, eN (bB B t)) := mPartOf1 (by decide) G rm ht
            rw [if_neg (fun z => by rw [nI_leI (by omega) (by omega)] at z; omega), if_pos True.intro, e1, cl_s, eN_n (by omega), ld_n (by omega) (by omega)]
            have hvb := canv (bB B t) (by omega) (c4 n2)
            have qb : cnu B R ex (bB B t) = true ∨ ¬ cnu B R ex (bB B t) = true := Decidable.em _
            rcases qb with qb | qb
            · rw [if_pos ⟨n2, qb⟩] at hpt
              rw [if_pos (hvb.mpr qb)]
              exact inpart 1 (bB B t) (Or.inr ⟨rfl, n2, rfl⟩) (by omega) lb qb hpt (c4 n2) _ rfl
            · rw [if_neg (fun z => qb z.2)] at hpt
              rw [if_neg (fun z => qb (hvb.mp z)), nI_1, parts]
              unfold bX11_changed_27
              rw [mParts G rm ht, cl_s, if_pos ((nI_leI (by omega) (by omega)).mpr (by omega))]
              exact here hpt
          · rw [if_neg (fun z => n2 z.1)] at hpt
            rw [if_pos ((nI_leI (by omega) (by omega)).mpr (by omega))]
            exact here hpt
      · rw [if_neg (fun z => n1 z.1), if_neg (fun z => n1 (by omega))] at hpt
        rw [if_pos ((nI_leI (by omega) (by omega)).mpr (by omega))]
        exact here hpt
