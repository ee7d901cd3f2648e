/-! steps one after the other -/
def rs (B : Bk) (R : Ru) (ex way t : Nat) : Option (Bk × Nat) := match mt B (R.2.1 (RA B R ex (ptu B R ex way t).2)) (ptu B R ex way t).2 with
  | none => none
  | some σ => reb B (ptu B R ex way t).1 (fl B σ 30 B (R.2.2.1 (RA B R ex (ptu B R ex way t).2)))
def itr (R : Ru) (ex way : Nat) : Nat → Bk → Nat → Option (Bk × Nat × List (Nat × Int64))
  | 0, B, t => some (B, t, [])
  | k + 1, B, t => if cnu B R ex t = true then
      (match rs B R ex way t with
       | none => none
       | some x => (match itr R ex way k x.1 x.2 with
         | none => none
         | some y => some (y.1, y.2.1, (RA B R ex (ptu B R ex way t).2, plc 1 (ptu B R ex way t).1) :: y.2.2)))
    else some (B, t, [])
theorem Kc.ext {B B2 : Bk} {R : Ru} {ex st : Nat} {w w2 : Wd} (G : GB B) (G2 : GB B2) (gr : GR B R) (e : Ext B B2) (h : Kc B R ex st w) (h4 : sI w2 4 = sI w 4) (h26 : aI w2 26 = aI w 26) : Kc B2 R ex st w2 := by
  refine ⟨by rw [h4]; exact h.1, by rw [h26]; exact h.2.1, fun t ht hc => ?_⟩
  rw [h26] at hc
  have := h.2.2 t ht hc
  have en := e.1
  exact ⟨by omega, by rw [Ext.cnE G G2 gr e (t + 1) t (by omega) this.1]; exact this.2⟩
abbrev rdS : Nat → Bool := fun k => k == 1 || k == 3 || k == 14
abbrev rdA : Nat → Bool := fun k => (decide (13 < k) && decide (k < 23)) || (decide (25 < k) && decide (k < 30)) || k == 43 || k == 44
theorem Fr.rdse {w w2 : Wd} (h : Fr seS seA w w2) : Fr rdS rdA w w2 := h.mn (fun k hk => by
    simp only [Bool.or_eq_false_iff] at hk
    exact hk.1.2) (fun k hk => by
    simp only [Bool.or_eq_false_iff, Bool.and_eq_false_iff, decide_eq_false_iff_not, beq_eq_false_iff_ne] at hk ⊢
    omega)
theorem Fr.rdrp {w w2 : Wd} (h : Fr rpS rpA w w2) : Fr rdS rdA w w2 := h.mn (fun k hk => by
    simp only [Bool.or_eq_false_iff] at hk ⊢
    exact ⟨hk.1.1, hk.2⟩) (fun k hk => by
    simp only [Bool.or_eq_false_iff, Bool.and_eq_false_iff, decide_eq_false_iff_not, beq_eq_false_iff_ne] at hk ⊢
    omega)
theorem FrB.rd {w w2 : Wd} (h : FrB w w2) : Fr rdS rdA w w2 := h.rp.rdrp
/-- the class does one step -/
theorem cOne {B : Bk} {R : Ru} (G : GB B) (gr : GR B R) {N d ex way st t c : Nat} {w : Wd} (hN : 2000000 ≤ N) (hex : ex < 16 ∨ ex = 2000) (hw : way = 0 ∨ way = 1) (hst : st < 1000) (ht : t < nB B) (rb : RB B w) (rc : RRc R w) (h5 : sI w 5 = eN ex) (ki : Kc B R ex st w) (h14 : sI w 14 = nI c) (hc : c < 100) :
    (cnu B R ex t = false → ∃ w2, eX3_search N (d + 34) w (nI t) (nI way) = some (w2, -1) ∧ Fr seS seA w w2 ∧ Kc B R ex st w2) ∧
    (cnu B R ex t = true → ∃ w1 r, r < 16 ∧ eX3_search N (d + 34) w (nI t) (nI way) = some (w1, nI r) ∧ Fr seS seA w w1 ∧
      (∀ B2 z, rs B R ex way t = some (B2, z) → ∃ w2, eX3_replace N (d + 34) w1 (nI r) = some (w2, nI z) ∧ RB B2 w2 ∧ GB B2 ∧ Ext B B2 ∧ z < nB B2 ∧ Fr rdS rdA w w2 ∧ Kc B2 R ex st w2 ∧ Nt w w2 c (nI (RA B R ex (ptu B R ex way t).2)) (plc 1 (ptu B R ex way t).1)) ∧
      (rs B R ex way t = none → ∃ w2 B2, eX3_replace N (d + 34) w1 (nI r) = some (w2, -4) ∧ RB B2 w2 ∧ GB B2 ∧ Ext B B2 ∧ Fr rdS rdA w w2 ∧ Kc B2 R ex st w2)) := by
  have g1 := G.1
  have gr1 := gr.1
  obtain ⟨s1, s2⟩ := cSearch G gr (N := N) (d := d) hN hex hw hst ht rb rc h5 ki
  refine ⟨s2, fun h => ?_⟩
  obtain ⟨w1, q1, q2, q3, q4, q5⟩ := s1 h
  obtain ⟨p1, p2, p3, p4⟩ := ptu_ok G (R := R) (ex := ex) (way := way) (t + 1) t (by omega) ht h
  obtain ⟨hr, σ, hσ⟩ := RA_mt p3
  refine ⟨w1, RA B R ex (ptu B R ex way t).2, by omega, q1, q4, ?_⟩
  have hrs : rs B R ex way t = reb B (ptu B R ex way t).1 (fl B σ 30 B (R.2.2.1 (RA B R ex (ptu B R ex way t).2))) := by
    unfold rs
    rw [hσ]
  rw [hrs]
  obtain ⟨r1, r2⟩ := cReplace G gr (N := N) (d := d + 1) (c := c) hN hr p2 hc (by omega) p1 (ptu_way G (t + 1) t (by omega) ht h).2 hσ (rb.k q4) (rc.k q4) (by rw [q4.1 14 rfl]; exact h14) q2 (q3 σ hσ)
  refine ⟨fun B2 z h2 => ?_, fun h2 => ?_⟩
  · obtain ⟨w2, a1, a2, a3, a4, a5, a6, a7, a8, a9⟩ := r1 B2 z h2
    refine ⟨w2, a1, a2, a3, a4, a5, q4.rdse.tr a6.rdrp, Kc.ext G a3 gr a4 q5 (a6.1 4 rfl) (a6.2 26 rfl).1, a7, fun j => ?_, fun j => ?_⟩
    · rw [a8 j, (q4.2 43 rfl).1]
    · rw [a9 j, (q4.2 44 rfl).2]
  · obtain ⟨w2, B2, a1, a2, a3, a4, a5⟩ := r2 h2
    exact ⟨w2, B2, a1, a2, a3, a4, q4.rdse.tr a5.rdrp, Kc.ext G a3 gr a4 q5 (a5.1 4 rfl) (a5.2 26 rfl).1⟩
theorem itr_end {R : Ru} {ex way : Nat} : ∀ k B t B2 t2 l, itr R ex way k B t = some (B2, t2, l) → l.length ≤ k ∧ (l.length < k → cnu B2 R ex t2 = false) := by
  intro k
  induction k with
  | zero =>
    intro B t B2 t2 l h
    cases h
    exact ⟨Nat.le_refl _, fun h => absurd h (Nat.lt_irrefl _)⟩
  | succ k ih =>
    intro B t B2 t2 l h
    unfold itr at h
    by_cases q : cnu B R ex t = true
    · rw [if_pos q] at h
      cases hr : rs B R ex way t with
      | none => rw [hr] at h; cases h
      | some x =>
        rw [hr] at h
        cases hi : itr R ex way k x.1 x.2 with
        | none => simp only [hi] at h; cases h
        | some y =>
          simp only [hi] at h
          cases h
          obtain ⟨i1, i2⟩ := ih x.1 x.2 y.1 y.2.1 y.2.2 hi
          exact ⟨by simp only [List.length_cons]; omega, fun h => i2 (by simp only [List.length_cons] at h; omega)⟩
    · rw [if_neg q] at h
      cases h
      exact ⟨Nat.zero_le _, fun _ => by simpa using q⟩
/-- noted steps, from j on -/
def NL (f : Nat → Int32) (g : Nat → Int64) (j : Nat) (l : List (Nat × Int64)) : Prop := ∀ i x, l[i]? = some x → f (j + i) = nI x.1 ∧ g (j + i) = x.2
theorem NL.cons {f : Nat → Int32} {g : Nat → Int64} {j : Nat} {x : Nat × Int64} {l : List (Nat × Int64)} (h1 : f j = nI x.1 ∧ g j = x.2) (h2 : NL f g (j + 1) l) : NL f g j (x :: l) := by
  intro i y hy
  cases i with
  | zero =>
    have : x = y := by simpa using hy
    rw [← this]
    exact h1
  | succ i =>
    have := h2 i y (by simpa using hy)
    rw [show j + (i + 1) = j + 1 + i by omega]
    exact this
theorem cRed {R : Ru} {N d ex way st : Nat} (hN : 2000000 ≤ N) (hex : ex < 16 ∨ ex = 2000) (hw : way = 0 ∨ way = 1) (hst : st < 1000) : ∀ k j n B t w, GB B → GR B R → j + k = 100 → k < n → t < nB B → RB B w → RRc R w → sI w 5 = eN ex → Kc B R ex st w → sI w 14 = nI j →
    (∀ B2 t2 l, itr R ex way k B t = some (B2, t2, l) → ∃ w2, fX3_reduce_13 N (d + 34) n w (nI way) (nI t) (nI j) = some (w2, if cnu B2 R ex t2 = true then -5 else nI t2) ∧ RB B2 w2 ∧ GB B2 ∧ Ext B B2 ∧ t2 < nB B2 ∧ Fr rdS rdA w w2 ∧ Kc B2 R ex st w2 ∧ sI w2 14 = nI (j + l.length) ∧ NL (aI w2 43) (aL w2 44) j l ∧ ∀ i, i < j → aI w2 43 i = aI w 43 i ∧ aL w2 44 i = aL w 44 i) ∧
    (itr R ex way k B t = none → ∃ w2 B2, fX3_reduce_13 N (d + 34) n w (nI way) (nI t) (nI j) = some (w2, -4) ∧ RB B2 w2 ∧ GB B2 ∧ Ext B B2 ∧ Fr rdS rdA w w2 ∧ Kc B2 R ex st w2) := by
  intro k
  induction k with
  | zero =>
    intro j n B t w G gr hj hn ht rb rc h5 ki h14
    have g1 := G.1
    obtain ⟨n, rfl⟩ : ∃ m, n = m + 1 := ⟨n - 1, by omega⟩
    have key : fX3_reduce_13 N (d + 34) (n + 1) w (nI way) (nI t) (nI j) = bX3_reduce_13 N (d + 34) (fX3_reduce_13 N (d + 34) n) w (nI way) (nI t) (nI j) := rfl
    refine ⟨fun B2 t2 l h => ?_, fun h => (by cases h)⟩
    cases h
    rw [key]
    unfold bX3_reduce_13 bX3_reduce_74
    rw [if_pos (show (100 : Int32) ≤ nI j by rw [show (100 : Int32) = nI 100 from rfl, nI_leI (by omega) (by omega)]; omega)]
    obtain ⟨s1, s2⟩ := cSearch G gr (N := N) (d := d) hN hex hw hst ht rb rc h5 ki
    cases hc : cnu B R ex t with
    | true =>
      obtain ⟨w1, q1, q2, q3, q4, q5⟩ := s1 hc
      obtain ⟨p1, p2, p3, p4⟩ := ptu_ok G (R := R) (ex := ex) (way := way) (t + 1) t (by omega) ht hc
      have hr := (RA_mt p3).1
      have gr1 := gr.1
      rw [q1, cl_s, if_neg (nI_m1 (by omega)), if_pos rfl]
      exact ⟨w1, rfl, rb.k q4, G, Ext.rf B, ht, q4.rdse, q5, by rw [q4.1 14 rfl]; exact h14, fun i x hx => by simp at hx, fun i _ => ⟨by rw [(q4.2 43 rfl).1], by rw [(q4.2 44 rfl).2]⟩⟩
    | false =>
      obtain ⟨w1, q1, q4, q5⟩ := s2 hc
      rw [q1, cl_s, if_pos rfl, if_neg (by decide)]
      exact ⟨w1, rfl, rb.k q4, G, Ext.rf B, ht, q4.rdse, q5, by rw [q4.1 14 rfl]; exact h14, fun i x hx => by simp at hx, fun i _ => ⟨by rw [(q4.2 43 rfl).1], by rw [(q4.2 44 rfl).2]⟩⟩
  | succ k ih =>
    intro j n B t w G gr hj hn ht rb rc h5 ki h14
    have g1 := G.1
    obtain ⟨n, rfl⟩ : ∃ m, n = m + 1 := ⟨n - 1, by omega⟩
    have key : fX3_reduce_13 N (d + 34) (n + 1) w (nI way) (nI t) (nI j) = bX3_reduce_13 N (d + 34) (fX3_reduce_13 N (d + 34) n) w (nI way) (nI t) (nI j) := rfl
    obtain ⟨o1, o2⟩ := cOne G gr (N := N) (d := d) (c := j) hN hex hw hst ht rb rc h5 ki h14 (by omega)
    rw [key]
    unfold bX3_reduce_13
    simp only [c_nm]
    rw [if_neg (show ¬ (100 : Int32) ≤ nI j from fun z => by rw [show (100 : Int32) = nI 100 from rfl, nI_leI (by omega) (by omega)] at z; omega)]
    generalize hX : itr R ex way (k + 1) B t = X
    unfold itr at hX
    cases hc : cnu B R ex t with
    | false =>
      rw [if_neg (by rw [hc]; decide)] at hX
      subst hX
      obtain ⟨w1, q1, q4, q5⟩ := o1 hc
      rw [q1, cl_s, if_pos rfl]
      refine ⟨fun B2 t2 l h => ?_, fun h => (by cases h)⟩
      cases h
      rw [if_neg (by rw [hc]; decide)]
      exact ⟨w1, rfl, rb.k q4, G, Ext.rf B, ht, q4.rdse, q5, by rw [q4.1 14 rfl]; exact h14, fun i x hx => by simp at hx, fun i _ => ⟨by rw [(q4.2 43 rfl).1], by rw [(q4.2 44 rfl).2]⟩⟩
    | true =>
      rw [if_pos hc] at hX
      obtain ⟨w1, r, hr16, q1, q2, q3, q4⟩ := o2 hc
      rw [q1, cl_s, if_neg (nI_m1 (by omega))]
      cases hr : rs B R ex way t with
      | none =>
        rw [hr] at hX
        subst hX
        obtain ⟨w2, B2, a1, a2, a3, a4, a5, a6⟩ := q4 hr
        rw [a1, cl_s, if_pos rfl]
        exact ⟨fun B2 t2 l h => (by cases h), fun _ => ⟨w2, B2, rfl, a2, a3, a4, a5, a6⟩⟩
      | some x =>
        obtain ⟨B3, z⟩ := x
        rw [hr] at hX
        obtain ⟨w2, a1, a2, a3, a4, a5, a6, a7, a8, a9, a10⟩ := q3 B3 z hr
        have g31 := a3.1
        rw [a1, cl_s, if_neg (nI_m4 (by omega)), nI_1]
        obtain ⟨i1, i2⟩ := ih (j + 1) n B3 z w2 a3 (gr.ext a4) (by omega) (by omega) a5 a2 (rc.k a6) (by rw [a6.1 5 rfl]; exact h5) a7 a8
        cases hi : itr R ex way k B3 z with
        | none =>
          simp only [hi] at hX
          subst hX
          obtain ⟨w4, B4, b1, b2, b3, b4, b5, b6⟩ := i2 hi
          exact ⟨fun B2 t2 l h => (by cases h), fun _ => ⟨w4, B4, b1, b2, b3, a4.tr b4, a6.tr b5, b6⟩⟩
        | some y =>
          obtain ⟨B4, t4, l4⟩ := y
          simp only [hi] at hX
          subst hX
          refine ⟨fun B2 t2 l h => ?_, fun h => (by cases h)⟩
          cases h
          obtain ⟨w4, b1, b2, b3, b4, b5, b6, b7, b8, b9, b10⟩ := i1 _ _ _ hi
          refine ⟨w4, b1, b2, b3, a4.tr b4, b5, a6.tr b6, b7, ?_, NL.cons ?_ b9, fun i hi2 => ?_⟩
          · rw [b8]
            congr 1
            simp only [List.length_cons]
            omega
          · have := b10 j (by omega)
            rw [this.1, this.2, a9, a10, if_pos rfl, if_pos rfl]
            exact ⟨rfl, rfl⟩
          · have := b10 i (by omega)
            rw [this.1, this.2, a9, a10, if_neg (by omega), if_neg (by omega)]
            exact ⟨rfl, rfl⟩
