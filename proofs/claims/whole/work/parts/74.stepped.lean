/-! the reference's steps -/
theorem ff : ¬ (false = true) := by decide
abbrev stS : Nat → Bool := fun k => k == 2 || k == 4 || k == 7 || k == 9
abbrev stA : Nat → Bool := fun k => (decide (2 < k) && decide (k < 9)) || (decide (11 < k) && decide (k < 15)) || k == 17 || k == 18
theorem Fr.stca {w w2 : Wd} (h : Fr noS caA w w2) : Fr stS stA w w2 := h.mn (fun _ _ => rfl) (fun k hk => by
    simp only [Bool.or_eq_false_iff, Bool.and_eq_false_iff, decide_eq_false_iff_not, beq_eq_false_iff_ne] at hk ⊢
    omega)
theorem Fr.stch {w w2 : Wd} (h : Fr chS chA w w2) : Fr stS stA w w2 := h.mn (fun k hk => by
    simp only [Bool.or_eq_false_iff] at hk ⊢
    exact hk.1) (fun k hk => by
    simp only [Bool.or_eq_false_iff, Bool.and_eq_false_iff, decide_eq_false_iff_not, beq_eq_false_iff_ne] at hk ⊢
    omega)
def StN (B : Bk) (w w2 : Wd) : Prop := ¬ sI w2 4 = 0 ∧ (∃ B2, GB B2 ∧ Ext B B2 ∧ RM B2 (pI w2 4 0)) ∧ Fr stS stA w w2
theorem mSteps {R : Ru} {N d ex way most : Nat} (hN : 2000000 ≤ N) (hex : ex < 16 ∨ ex = 2000) (hw : way = 0 ∨ way = 1) (hmost : most ≤ 100) : ∀ k j n B t w, GB B → GR B R → j + k = most → k < n → t < nB B → RM B w → RRm R w → sI w 5 = eN ex → sI w 6 = nI way → sI w 9 = nI j →
    (∀ B2 t2 l, itr R ex way k B t = some (B2, t2, l) → ∃ w2, fX11_stepped_13 N (d + 1035) n w (nI most) (nI t) = some (w2, nI t2) ∧ RM B2 w2 ∧ GB B2 ∧ Ext B B2 ∧ t2 < nB B2 ∧ Fr stS stA w w2 ∧ sI w2 9 = nI (j + l.length) ∧ NL (aI w2 17) (aL w2 18) j l ∧ ∀ i, i < j → aI w2 17 i = aI w 17 i ∧ aL w2 18 i = aL w 18 i) ∧
    (itr R ex way k B t = none → ∃ w2 y, fX11_stepped_13 N (d + 1035) n w (nI most) (nI t) = some (w2, y) ∧ StN B w w2) := by
  intro k
  induction k with
  | zero =>
    intro j n B t w G gr hj hn ht rm rr h5 h6 h9
    obtain ⟨n, rfl⟩ : ∃ m, n = m + 1 := ⟨n - 1, by omega⟩
    have key : fX11_stepped_13 N (d + 1035) (n + 1) w (nI most) (nI t) = bX11_stepped_13 N (d + 1035) (fX11_stepped_13 N (d + 1035) n) w (nI most) (nI t) := rfl
    refine ⟨fun B2 t2 l h => ?_, fun h => (by cases h)⟩
    cases h
    rw [key]
    unfold bX11_stepped_13 bX11_stepped_85
    rw [h9, if_pos ((nI_leI (by omega) (by omega)).mpr (by omega))]
    exact ⟨w, rfl, rm, G, Ext.rf B, ht, Fr.rf w, h9, fun i x hx => by simp at hx, fun _ _ => ⟨rfl, rfl⟩⟩
  | succ k ih =>
    intro j n B t w G gr hj hn ht rm rr h5 h6 h9
    have g1 := G.1
    obtain ⟨n, rfl⟩ : ∃ m, n = m + 1 := ⟨n - 1, by omega⟩
    have key : fX11_stepped_13 N (d + 1035) (n + 1) w (nI most) (nI t) = bX11_stepped_13 N (d + 1035) (fX11_stepped_13 N (d + 1035) n) w (nI most) (nI t) := rfl
    obtain ⟨w3, c1, c2, c3, c4⟩ := mReady G gr (N := N) (d := d) (t := t) hN hex ht rm rr h5
    have c5 : eX11_isReady N (d + 1035) w (nI t) = _ := c1
    have s93 : sI w3 9 = nI j := by rw [c2.1 9 rfl]; exact h9
    rw [key]
    unfold bX11_stepped_13 bX11_stepped_85
    simp only [c_pi]
    rw [h9, if_neg (fun z => by rw [nI_leI (by omega) (by omega)] at z; omega), if_pos rm.2.2.1, c5, cl_s]
    generalize hX : itr R ex way (k + 1) B t = X
    unfold itr at hX
    cases hc : cnu B R ex t with
    | false =>
      rw [if_neg (by rw [hc]; decide)] at hX
      subst hX
      rw [if_neg ff, if_pos i00]
      refine ⟨fun B2 t2 l h => ?_, fun h => (by cases h)⟩
      cases h
      exact ⟨w3, rfl, rm.k c2, G, Ext.rf B, ht, c2.stca, s93, fun i x hx => by simp at hx, fun _ _ => ⟨by rw [(c2.2 17 rfl).1], by rw [(c2.2 18 rfl).2]⟩⟩
    | true =>
      rw [if_pos hc] at hX
      rw [if_pos rfl, if_neg i10]
      obtain ⟨p1, p2, p3, p4⟩ := ptu_ok G (R := R) (ex := ex) (way := way) (t + 1) t (by omega) ht hc
      obtain ⟨hr, σ, hσ⟩ := RA_mt p3
      have hrs : rs B R ex way t = reb B (ptu B R ex way t).1 (fl B σ 30 B (R.2.2.1 (RA B R ex (ptu B R ex way t).2))) := by
        unfold rs
        rw [hσ]
      obtain ⟨m1, m2⟩ := mChanged G gr (N := N) (ex := ex) (way := way) hN hw (w := w3) (rm.k c2) (rr.k c2) c3 (by rw [c2.1 6 rfl]; exact h6) 1000 (d + 2) t 1 (by omega) ht c4 hc σ hσ
      rw [← hrs] at m1 m2
      cases hr2 : rs B R ex way t with
      | none =>
        rw [hr2] at hX
        subst hX
        obtain ⟨w5, y, a1, a2, a3, a4⟩ := m2 hr2
        have a5 : eX11_changed N (d + 1035) w3 (nI t) 1 = _ := a1
        refine ⟨fun B2 t2 l h => (by cases h), fun _ => ?_⟩
        have s95 : sI w5 9 = nI j := by rw [a4.1 9 rfl]; exact s93
        rw [a5, cl_s, s95, st_n (by omega) (by omega)]
        have z1 : ∀ f, sI (pA w5 17 f) 9 = nI j := fun f => s95
        rw [z1, sl_n (by omega) (by omega)]
        generalize hw8 : pB (pA w5 17 (upd (aI w5 17) j (sI w5 7))) 18 (vp_updL (aL (pA w5 17 (upd (aI w5 17) j (sI w5 7))) 18) j (sL (pA w5 17 (upd (aI w5 17) j (sI w5 7))) 0)) = w8
        have fr8 : Fr stS stA w w8 := by rw [← hw8]; exact ((c2.stca.tr a4.stch).pa rfl).pb rfl
        obtain ⟨n, rfl⟩ : ∃ m, n = m + 1 := ⟨n - 1, by omega⟩
        refine ⟨pI w8 9 (sI w8 9 + 1), y, ?_, ?_, ?_, fr8.pi rfl⟩
        · show bX11_stepped_13 N (d + 1035) (fX11_stepped_13 N (d + 1035) n) (pI w8 9 (sI w8 9 + 1)) (nI most) y = _
          unfold bX11_stepped_13 bX11_stepped_85
          have h4 : ¬ sI (pI w8 9 (sI w8 9 + 1)) 4 = 0 := by rw [← hw8]; exact a2
          rw [if_neg h4]
          split <;> rfl
        · rw [← hw8]; exact a2
        · obtain ⟨B3, o1, o2, o3⟩ := a3
          exact ⟨B3, o1, o2, by rw [← hw8]; exact o3⟩
      | some x =>
        obtain ⟨B3, z⟩ := x
        rw [hr2] at hX
        obtain ⟨w5, a1, a2, a3, a4, a5, a6, a7, a8⟩ := m1 B3 z hr2
        have a9 : eX11_changed N (d + 1035) w3 (nI t) 1 = _ := a1
        have s95 : sI w5 9 = nI j := by rw [a8.1 9 rfl]; exact s93
        rw [a9, cl_s, s95, st_n (by omega) (by omega)]
        have z1 : ∀ f, sI (pA w5 17 f) 9 = nI j := fun f => s95
        rw [z1, sl_n (by omega) (by omega)]
        have z2 : ∀ f g, sI (pB (pA w5 17 f) 18 g) 9 = nI j := fun f g => s95
        rw [z2, nI_1, a6]
        have z3 : ∀ f, sL (pA w5 17 f) 0 = plc 1 (ptu B R ex way t).1 := fun f => a7
        rw [z3]
        generalize hw9 : pI (pB (pA w5 17 (upd (aI w5 17) j (nI (RA B R ex (ptu B R ex way t).2)))) 18 (vp_updL (aL (pA w5 17 (upd (aI w5 17) j (nI (RA B R ex (ptu B R ex way t).2)))) 18) j (plc 1 (ptu B R ex way t).1))) 9 (nI (j + 1)) = w9
        have fr9 : Fr stS stA w w9 := by rw [← hw9]; exact (((c2.stca.tr a8.stch).pa rfl).pb rfl).pi rfl
        have rm9 : RM B3 w9 := by rw [← hw9]; exact a2
        have e17 : ∀ i, aI w9 17 i = if i = j then nI (RA B R ex (ptu B R ex way t).2) else aI w 17 i := fun i => by
          have : aI w9 17 = upd (aI w5 17) j (nI (RA B R ex (ptu B R ex way t).2)) := by rw [← hw9]; rfl
          rw [this]
          by_cases e : i = j
          · rw [if_pos e, e, upd_s]
          · rw [if_neg e, upd_n e, (a8.2 17 rfl).1, (c2.2 17 rfl).1]
        have e18 : ∀ i, aL w9 18 i = if i = j then plc 1 (ptu B R ex way t).1 else aL w 18 i := fun i => by
          have : aL w9 18 = vp_updL (aL w5 18) j (plc 1 (ptu B R ex way t).1) := by rw [← hw9]; rfl
          rw [this]
          by_cases e : i = j
          · rw [if_pos e, e, updL_s]
          · rw [if_neg e, updL_n e, (a8.2 18 rfl).2, (c2.2 18 rfl).2]
        obtain ⟨i1, i2⟩ := ih (j + 1) n B3 z w9 a3 (gr.ext a4) (by omega) (by omega) a5 rm9 (rr.k fr9) (by rw [fr9.1 5 rfl]; exact h5) (by rw [fr9.1 6 rfl]; exact h6) (by rw [← hw9]; rfl)
        cases hi : itr R ex way k B3 z with
        | none =>
          simp only [hi] at hX
          subst hX
          obtain ⟨w4, y, b1, b2, ⟨B4, b3, b4, b5⟩, b6⟩ := i2 hi
          exact ⟨fun B2 t2 l h => (by cases h), fun _ => ⟨w4, y, b1, b2, ⟨B4, b3, a4.tr b4, b5⟩, fr9.tr b6⟩⟩
        | some y =>
          obtain ⟨B4, t4, l4⟩ := y
          simp only [hi] at hX
          subst hX
          refine ⟨fun B2 t2 l h => ?_, fun h => (by cases h)⟩
          cases h
          obtain ⟨w4, b1, b2, b3, b4, b5, b6, b8, b9, b10⟩ := i1 _ _ _ hi
          refine ⟨w4, b1, b2, b3, a4.tr b4, b5, fr9.tr b6, ?_, NL.cons ?_ b9, fun i hi2 => ?_⟩
          · rw [b8]
            congr 1
            simp only [List.length_cons]
            omega
          · have := b10 j (by omega)
            rw [this.1, this.2, e17, e18, if_pos rfl, if_pos rfl]
            exact ⟨rfl, rfl⟩
          · have := b10 i (by omega)
            rw [this.1, this.2, e17, e18, if_neg (by omega), if_neg (by omega)]
            exact ⟨rfl, rfl⟩
abbrev ssS : Nat → Bool := fun k => k == 2 || k == 4 || k == 6 || k == 7 || k == 9
theorem Fr.ss {w w2 : Wd} (h : Fr stS stA w w2) : Fr ssS stA w w2 := h.mn (fun k hk => by
    simp only [Bool.or_eq_false_iff] at hk ⊢
    exact ⟨⟨⟨hk.1.1.1.1, hk.1.1.1.2⟩, hk.1.2⟩, hk.2⟩) (fun _ hk => hk)
theorem mStepped {B : Bk} {R : Ru} {N d ex way most t : Nat} {w : Wd} (hN : 2000000 ≤ N) (hex : ex < 16 ∨ ex = 2000) (hw : way = 0 ∨ way = 1) (hmost : most ≤ 100) (G : GB B) (gr : GR B R) (ht : t < nB B) (rm : RM B w) (rr : RRm R w) (h5 : sI w 5 = eN ex) :
    (∀ B2 t2 l, itr R ex way most B t = some (B2, t2, l) → ∃ w2, eX11_stepped N (d + 1036) w (nI t) (nI way) (nI most) = some (w2, nI t2) ∧ RM B2 w2 ∧ GB B2 ∧ Ext B B2 ∧ t2 < nB B2 ∧ Fr ssS stA w w2 ∧ sI w2 9 = nI l.length ∧ NL (aI w2 17) (aL w2 18) 0 l) ∧
    (itr R ex way most B t = none → ∃ w2 y, eX11_stepped N (d + 1036) w (nI t) (nI way) (nI most) = some (w2, y) ∧ ¬ sI w2 4 = 0 ∧ (∃ B2, GB B2 ∧ Ext B B2 ∧ RM B2 (pI w2 4 0)) ∧ Fr ssS stA w w2) := by
  have key : eX11_stepped N (d + 1036) w (nI t) (nI way) (nI most) = fX11_stepped_13 N (d + 1035) N (pI (pI w 6 (nI way)) 9 0) (nI most) (nI t) := rfl
  rw [key]
  have f0 : Fr ssS stA w (pI (pI w 6 (nI way)) 9 0) := ((Fr.rf w).pi rfl).pi rfl
  obtain ⟨s1, s2⟩ := mSteps (R := R) (N := N) (d := d) (ex := ex) (way := way) (most := most) hN hex hw hmost most 0 N B t (pI (pI w 6 (nI way)) 9 0) G gr (by omega) (by omega) ht rm rr h5 rfl rfl
  refine ⟨fun B2 t2 l h => ?_, fun h => ?_⟩
  · obtain ⟨w2, b1, b2, b3, b4, b5, b6, b8, b9, b10⟩ := s1 B2 t2 l h
    rw [Nat.zero_add] at b8
    exact ⟨w2, b1, b2, b3, b4, b5, f0.tr b6.ss, b8, b9⟩
  · obtain ⟨w2, y, b1, b2, b3, b4⟩ := s2 h
    exact ⟨w2, y, b1, b2, b3, f0.tr b4.ss⟩
theorem mNormalOf {B : Bk} {R : Ru} {N d ex way t : Nat} {w : Wd} (hN : 2000000 ≤ N) (hex : ex < 16 ∨ ex = 2000) (hw : way = 0 ∨ way = 1) (G : GB B) (gr : GR B R) (ht : t < nB B) (rm : RM B w) (rr : RRm R w) (h5 : sI w 5 = eN ex) :
    (∀ B2 t2 l, itr R ex way 100 B t = some (B2, t2, l) → ∃ w2, eX11_normalOf N (d + 1037) w (nI t) (nI way) = some (w2, if cnu B2 R ex t2 = true then -5 else nI t2) ∧ RM B2 w2 ∧ GB B2 ∧ Ext B B2 ∧ t2 < nB B2 ∧ Fr ssS stA w w2 ∧ sI w2 9 = nI l.length ∧ NL (aI w2 17) (aL w2 18) 0 l) ∧
    (itr R ex way 100 B t = none → ∃ w2 y, eX11_normalOf N (d + 1037) w (nI t) (nI way) = some (w2, y) ∧ ¬ sI w2 4 = 0 ∧ (∃ B2, GB B2 ∧ Ext B B2 ∧ RM B2 (pI w2 4 0)) ∧ Fr ssS stA w w2) := by
  have key : eX11_normalOf N (d + 1037) w (nI t) (nI way) = bX11_normalOf_0 N (d + 1036) w (nI t) (nI way) := rfl
  rw [key]
  unfold bX11_normalOf_0 bX11_normalOf_38 bX11_normalOf_39
  obtain ⟨s1, s2⟩ := mStepped (R := R) (N := N) (d := d) (ex := ex) (way := way) (most := 100) hN hex hw (by omega) G gr ht rm rr h5
  refine ⟨fun B2 t2 l h => ?_, fun h => ?_⟩
  · obtain ⟨w2, b1, b2, b3, b4, b5, b6, b7, b8⟩ := s1 B2 t2 l h
    obtain ⟨e1, e2⟩ := itr_end 100 B t B2 t2 l h
    have b9 : eX11_stepped N (d + 1036) w (nI t) (nI way) 100 = _ := b1
    rw [b9, cl_s, if_pos b2.2.2.1, b7]
    by_cases q : l.length = 100
    · rw [if_pos (show nI l.length = 100 by rw [q]; rfl)]
      obtain ⟨w3, c1, c2, c3, c4⟩ := mReady b3 (gr.ext b4) (N := N) (d := d + 1) (t := t2) hN hex b5 b2 (rr.k b6) (by rw [b6.1 5 rfl]; exact h5)
      have c5 : eX11_isReady N (d + 1036) w2 (nI t2) = _ := c1
      rw [c5, cl_s]
      have fr3 : Fr ssS stA w w3 := b6.tr c2.stca.ss
      have s9 : sI w3 9 = nI l.length := by rw [c2.1 9 rfl]; exact b7
      have nl3 : NL (aI w3 17) (aL w3 18) 0 l := by rw [(c2.2 17 rfl).1, (c2.2 18 rfl).2]; exact b8
      cases hc : cnu B2 R ex t2 with
      | true =>
        rw [if_pos rfl, if_neg i10, if_pos rfl]
        exact ⟨w3, rfl, b2.k c2, b3, b4, b5, fr3, s9, nl3⟩
      | false =>
        rw [if_neg ff, if_pos i00, if_neg ff]
        exact ⟨w3, rfl, b2.k c2, b3, b4, b5, fr3, s9, nl3⟩
    · rw [if_neg (show ¬ nI l.length = 100 from fun z => q ((nI_eq (b := 100) (by omega) (by omega)).mp z)), e2 (by omega), if_neg (by decide)]
      exact ⟨w2, rfl, b2, b3, b4, b5, b6, b7, b8⟩
  · obtain ⟨w2, y, b1, b2, b3, b4⟩ := s2 h
    have b9 : eX11_stepped N (d + 1036) w (nI t) (nI way) 100 = _ := b1
    rw [b9, cl_s, if_neg b2]
    exact ⟨w2, y, rfl, b2, b3, b4⟩
