/-! the class looks for the first place -/
abbrev seS : Nat → Bool := fun k => k == 3
abbrev seA : Nat → Bool := fun k => k == 26 || k == 27 || k == 29
def cntU (f : Nat → Int32) (s : Int32) : Nat → Nat
  | 0 => 0
  | n + 1 => cntU f s n + (if f n = s then 0 else 1)
theorem cntU_le {f : Nat → Int32} {s : Int32} : ∀ n, cntU f s n ≤ n := by
  intro n
  induction n with
  | zero => exact Nat.le_refl _
  | succ n ih => unfold cntU; split <;> omega
theorem cntU_up {f : Nat → Int32} {s : Int32} {k : Nat} (h : f k ≠ s) : ∀ n, (k < n → cntU (upd f k s) s n + 1 = cntU f s n) ∧ (n ≤ k → cntU (upd f k s) s n = cntU f s n) := by
  intro n
  induction n with
  | zero => exact ⟨fun h => by omega, fun _ => rfl⟩
  | succ n ih =>
    unfold cntU
    refine ⟨fun hk => ?_, fun hk => ?_⟩
    · by_cases e : n = k
      · subst e
        rw [upd_s, if_pos rfl, if_neg h, ih.2 (by omega)]
      · rw [upd_n e]
        have := ih.1 (by omega)
        omega
    · rw [upd_n (by omega), ih.2 (by omega)]
def cu (w : Wd) : Nat := cntU (aI w 26) (sI w 4) 1000
/-- clean is what holds no place -/
def Kc (B : Bk) (R : Ru) (ex st : Nat) (w : Wd) : Prop := sI w 4 = nI st ∧ (∀ j, j < 1000 → ∃ c, c ≤ st ∧ aI w 26 j = nI c) ∧ ∀ t, t < 1000 → aI w 26 t = nI st → t < nB B ∧ cnu B R ex t = false
/-- the way that the class has gone -/
def Stk (w : Wd) : Nat → List (Nat × Nat) → Nat → Prop
  | D, [], u => sI w 3 = nI (D + 1) ∧ aI w 27 D = nI u
  | D, x :: l, u => aI w 27 D = nI x.1 ∧ Stk w (D + 1) l u
def low (D : Nat) (w w2 : Wd) : Prop := ∀ i, i < D → aI w2 27 i = aI w 27 i
theorem low.tr {D : Nat} {w w2 w3 : Wd} (h : low D w w2) (g : low D w2 w3) : low D w w3 := fun i hi => (g i hi).trans (h i hi)
theorem low.mn {D E : Nat} {w w2 : Wd} (h : low E w w2) (hd : D ≤ E) : low D w w2 := fun i hi => h i (by omega)
theorem low.rf {D : Nat} (w : Wd) : low D w w := fun _ _ => rfl
/-- the rule that entering finds, and what its variables become -/
def ru0 (B : Bk) (R : Ru) (ex way t : Nat) : Int32 := if way = 0 then eN (RA B R ex t) else -1
def Bd (B : Bk) (R : Ru) (ex t : Nat) (w : Wd) : Prop := ∀ σ, mt B (R.2.1 (RA B R ex t)) t = some σ → ∀ v, v < 4 → aI w 29 v = eN (σ v)
def Found (N d : Nat) (B : Bk) (R : Ru) (ex way st t D n lk : Nat) (x : Int32) (w0 w : Wd) : Prop :=
  ∃ w2, fX3_search_32 N d n w (nI way) x (nI lk) = some (w2, nI (RA B R ex (ptu B R ex way t).2)) ∧ Stk w2 D (ptu B R ex way t).1 (ptu B R ex way t).2 ∧ Bd B R ex (ptu B R ex way t).2 w2 ∧ low D w0 w2 ∧ Fr seS seA w0 w2 ∧ Kc B R ex st w2
def Cont (N d : Nat) (B : Bk) (R : Ru) (ex way st t D n lk : Nat) (x : Int32) (w0 w : Wd) (F : Nat) : Prop :=
  ∃ w2 n2 lk2, fX3_search_32 N d n w (nI way) x (nI lk) = fX3_search_32 N d n2 w2 (nI way) (-1) (nI lk2) ∧ sI w2 3 = nI D ∧ low D w0 w2 ∧ Fr seS seA w0 w2 ∧ Kc B R ex st w2 ∧ aI w2 26 t = nI st ∧ n2 + lk2 = N ∧ lk2 + 4 * cu w2 + 3 ≤ F ∧ (∀ u, t < u → aI w2 26 u = aI w0 26 u) ∧ ∀ u, aI w0 26 u = nI st → aI w2 26 u = nI st
theorem cNext {B : Bk} (G : GB B) {N d st t : Nat} {w : Wd} (rb : RB B w) (ht : t < nB B) (h4 : sI w 4 = nI st) :
    eX3_nextPart N (d + 1) w (nI t) = some (w, if 1 ≤ npB B t ∧ aI w 26 (aB B t) ≠ nI st then nI (aB B t) else if 2 ≤ npB B t ∧ aI w 26 (bB B t) ≠ nI st then nI (bB B t) else -1) := by
  have g1 := G.1
  have hnp := G.np ht
  have hr := rb.2.2.2.1 t ht
  have s2 : bX3_nextPart_30 N d w (nI t) = some (w, if 2 ≤ npB B t ∧ aI w 26 (bB B t) ≠ nI st then nI (bB B t) else -1) := by
    unfold bX3_nextPart_30 bX3_nextPart_62 bX3_nextPart_63
    rw [ld_n (by omega) (by omega), hr.2.2.1]
    by_cases z : 2 ≤ npB B t
    · have hlt := hnp.2.2.2.1 z
      rw [if_neg (eN_m1 (by omega)), eN_n (by omega), ld_n (by omega) (by omega), h4]
      by_cases y : aI w 26 (bB B t) = nI st
      · rw [if_pos y, if_neg (fun q => q.2 y)]
      · rw [if_neg y, if_pos ⟨z, y⟩]
    · rw [if_pos (by rw [hnp.2.2.2.2.2 z]; rfl), if_neg (fun q => z q.1)]
  show bX3_nextPart_0 N d w (nI t) = _
  unfold bX3_nextPart_0
  rw [ld_n (by omega) (by omega), hr.2.1]
  by_cases z : 1 ≤ npB B t
  · have hlt := hnp.2.2.1 z
    rw [if_neg (eN_m1 (by omega)), eN_n (by omega), ld_n (by omega) (by omega), h4]
    by_cases y : aI w 26 (aB B t) = nI st
    · rw [if_pos y, if_neg (fun q => q.2 y), s2]
    · rw [if_neg y, if_pos ⟨z, y⟩]
  · rw [if_pos (by rw [hnp.2.2.2.2.1 z]; rfl), if_neg (fun q => z q.1), s2]
theorem cEnter {B : Bk} {R : Ru} (G : GB B) (gr : GR B R) {N d ex way D p : Nat} {w : Wd} (hN : 2000000 ≤ N) (hex : ex < 16 ∨ ex = 2000) (hw : way = 0 ∨ way = 1) (rb : RB B w) (rc : RRc R w) (h5 : sI w 5 = eN ex) (h3 : sI w 3 = nI D) (hD : D < 1000) (hp : p < nB B) :
    ∃ w1, eX3_enter N (d + 33) w (nI p) (nI way) = some (w1, ru0 B R ex way p) ∧ Fr noS (fun k => k == 29) (pI (pA w 27 (upd (aI w 27) D (nI p))) 3 (nI (D + 1))) w1 ∧ (way = 0 → RA B R ex p ≠ 2000 → Bd B R ex p w1) := by
  have key : eX3_enter N (d + 33) w (nI p) (nI way) = bX3_enter_0 N (d + 32) w (nI p) (nI way) := rfl
  rw [key]
  have gr1 := gr.1
  have hin := RA_in B R ex p
  unfold bX3_enter_0 bX3_enter_45 ru0
  simp only [c_pi]
  rw [h3, if_pos (by rw [show (1000 : Int32) = nI 1000 from rfl, nI_ltI (by omega) (by omega)]; exact hD), st_n (by omega) (by omega)]
  have z1 : ∀ f, sI (pA w 27 f) 3 = nI D := fun f => h3
  rw [z1, nI_1]
  generalize hw2 : pI (pA w 27 (upd (aI w 27) D (nI p))) 3 (nI (D + 1)) = w2
  have f2 : Fr seS seA w w2 := by rw [← hw2]; exact ((Fr.rf w).pa rfl).pi rfl
  rcases hw with q | q
  · obtain ⟨f, e1, e2⟩ := cRuleFor G gr (N := N) (d := d) (w := w2) hN hp hex (rb.k f2) (rc.k f2) (by rw [f2.1 5 rfl]; exact h5)
    rw [if_pos (by rw [q]; rfl), e1, cl_s, if_pos q]
    refine ⟨_, rfl, (Fr.rf w2).pa rfl, fun _ hr σ hσ v hv => ?_⟩
    rw [aI_pA, if_pos rfl]
    exact e2 σ hσ (by omega) v hv
  · rw [if_neg (by rw [q]; decide), if_neg (by omega)]
    exact ⟨w2, rfl, Fr.rf w2, fun z => by omega⟩
theorem cLeave {B : Bk} {R : Ru} (G : GB B) (gr : GR B R) {N d ex way st t D : Nat} {w : Wd} (hN : 2000000 ≤ N) (hex : ex < 16 ∨ ex = 2000) (hw : way = 0 ∨ way = 1) (rb : RB B w) (rc : RRc R w) (h5 : sI w 5 = eN ex) (h3 : sI w 3 = nI (D + 1)) (h4 : sI w 4 = nI st) (ht : t < nB B) :
    ∃ w1, Fr noS (fun k => k == 29) w w1 ∧ (way = 1 ∧ RA B R ex t ≠ 2000 → eX3_leave N (d + 33) w (nI t) (nI way) = some (w1, nI (RA B R ex t)) ∧ Bd B R ex t w1) ∧ (¬ (way = 1 ∧ RA B R ex t ≠ 2000) → eX3_leave N (d + 33) w (nI t) (nI way) = some (pI (pA w1 26 (upd (aI w1 26) t (nI st))) 3 (nI D), -1)) := by
  have g1 := G.1
  have gr1 := gr.1
  have hin := RA_in B R ex t
  have key : eX3_leave N (d + 33) w (nI t) (nI way) = bX3_leave_0 N (d + 32) w (nI t) (nI way) := rfl
  rw [key]
  -- the rule is none
  have off : ∀ w1, Fr noS (fun k => k == 29) w w1 → bX3_leave_14 N (d + 32) w1 (nI t) (-1) = some (pI (pA w1 26 (upd (aI w1 26) t (nI st))) 3 (nI D), -1) := fun w1 f => by
    unfold bX3_leave_14 bX3_leave_40
    simp only [c_pi]
    have k4 : sI w1 4 = nI st := by rw [f.1 4 rfl]; exact h4
    have k3 : sI w1 3 = nI (D + 1) := by rw [f.1 3 rfl]; exact h3
    rw [if_pos True.intro, k4, st_n (by omega) (by omega)]
    have z3 : ∀ g, sI (pA w1 26 g) 3 = nI (D + 1) := fun g => k3
    rw [z3, nI_pred]
  unfold bX3_leave_0
  rcases hw with q | q
  · rw [if_neg (by rw [q]; decide)]
    exact ⟨w, Fr.rf w, fun z => by omega, fun _ => off w (Fr.rf w)⟩
  · obtain ⟨f, e1, e2⟩ := cRuleFor G gr (N := N) (d := d) hN ht hex rb rc h5
    rw [if_pos (by rw [q]; rfl), e1, cl_s]
    have ff : Fr noS (fun k => k == 29) w (pA w 29 f) := (Fr.rf w).pa rfl
    refine ⟨pA w 29 f, ff, fun z => ⟨?_, fun σ hσ v hv => ?_⟩, fun z => ?_⟩
    · unfold bX3_leave_14 bX3_leave_40
      rw [if_neg (eN_m1 (by omega)), eN_n (by omega)]
    · rw [aI_pA, if_pos rfl]
      exact e2 σ hσ (by omega) v hv
    · have : RA B R ex t = 2000 := by
        apply Decidable.byContradiction
        intro y
        exact z ⟨q, y⟩
      rw [this, eN_no]
      exact off _ ff
/-- a rule that has been found ends the loop -/
theorem cStop {N d n r lk : Nat} {w : Wd} {x2 : Int32} (hr : r < 2000) : fX3_search_32 N d (n + 1) w x2 (nI r) (nI lk) = some (w, nI r) := by
  show bX3_search_32 N d (fX3_search_32 N d n) w x2 (nI r) (nI lk) = _
  unfold bX3_search_32 bX3_search_102
  rw [if_neg (nI_m1 (show r < 2 ^ 31 by omega))]
  split
  · rfl
  · split <;> rfl
/-- one turn of the loop -/
theorem cTurn {B : Bk} {N d n t D lk : Nat} {w : Wd} {x2 : Int32} (h3 : sI w 3 = nI (D + 1)) (hD : D < 1000) (h27 : aI w 27 D = nI t) (hlk : lk < 1000000) : fX3_search_32 N d (n + 1) w x2 (-1) (nI lk) = c_cl (eX3_nextPart N d w (nI t)) fun w6 v7 => if v7 = (-1) then (c_cl (eX3_leave N d w6 (nI t) x2) fun w11 v12 => fX3_search_32 N d n w11 x2 v12 (nI (lk + 1))) else (c_cl (eX3_enter N d w6 v7 x2) fun w8 v9 => fX3_search_32 N d n w8 x2 v9 (nI (lk + 1))) := by
  show bX3_search_32 N d (fX3_search_32 N d n) w x2 (-1) (nI lk) = _
  unfold bX3_search_32 bX3_search_95
  simp only [c_nm]
  rw [if_neg (show ¬ (1000000 : Int32) ≤ nI lk from fun z => by rw [show (1000000 : Int32) = nI 1000000 from rfl, nI_leI (by omega) (by omega)] at z; omega), h3, if_neg (show ¬ nI (D + 1) ≤ 0 from fun z => by rw [show (0 : Int32) = nI 0 from rfl, nI_leI (by omega) (by omega)] at z; omega), if_pos True.intro, nI_pred, ld_n (by omega) (by omega), h27, nI_1]
theorem cSrch {B : Bk} {R : Ru} (G : GB B) (gr : GR B R) {N d ex way st : Nat} (hN : 2000000 ≤ N) (hex : ex < 16 ∨ ex = 2000) (hw : way = 0 ∨ way = 1) (hst : st < 1000) : ∀ k t D n lk w, t < k → t < nB B → D + t < 1000 → RB B w → RRc R w → sI w 5 = eN ex → Kc B R ex st w → sI w 3 = nI (D + 1) → aI w 27 D = nI t → aI w 26 t ≠ nI st → (way = 0 → RA B R ex t ≠ 2000 → Bd B R ex t w) → n + lk = N → lk + 4 * cu w ≤ 5000 + D →
    (cnu B R ex t = true → Found N (d + 33) B R ex way st t D n lk (ru0 B R ex way t) w w) ∧ (cnu B R ex t = false → Cont N (d + 33) B R ex way st t D n lk (ru0 B R ex way t) w w (lk + 4 * cu w)) := by
  have g1 := G.1
  intro k
  induction k with
  | zero => intro t D n lk w h; omega
  | succ k ih =>
    intro t D n0 lk0 w0 hk ht hD rb0 rc0 h50 ki0 hs3 hs27 hcl hbd hn0 hF0
    have hnp := G.np ht
    have hal := G.a_le ht
    have hin := RA_in B R ex t
    have gr1 := gr.1
    have hcnu := cnu_iff G (R := R) (ex := ex) ht
    have hcf : cnu B R ex t = false ↔ ¬ (RA B R ex t ≠ 2000 ∨ (1 ≤ npB B t ∧ cnu B R ex (aB B t) = true) ∨ (2 ≤ npB B t ∧ cnu B R ex (bB B t) = true)) := by
      rw [← hcnu]; simp
    have hpt := ptu_eq G (R := R) (ex := ex) (way := way) ht
    by_cases fst : way = 0 ∧ RA B R ex t ≠ 2000
    · -- the place is here
      have hp2 : ptu B R ex way t = ([], t) := by rw [hpt, if_pos fst]
      refine ⟨fun _ => ?_, fun z => absurd (hcnu.mpr (Or.inl fst.2)) (by rw [z]; decide)⟩
      obtain ⟨n1, rfl⟩ : ∃ n1, n0 = n1 + 1 := ⟨n0 - 1, by omega⟩
      unfold Found ru0
      rw [hp2, if_pos fst.1, eN_n (by omega)]
      exact ⟨w0, cStop (by omega), ⟨hs3, hs27⟩, hbd fst.1 fst.2, low.rf w0, Fr.rf w0, ki0⟩
    · have hra : way = 0 → RA B R ex t = 2000 := fun q => by
        apply Decidable.byContradiction
        intro z
        exact fst ⟨q, z⟩
      have hru : ru0 B R ex way t = -1 := by
        unfold ru0
        split
        · rename_i q
          rw [hra q, eN_no]
        · rfl
      rw [hru]
      -- all parts are clean
      have stC : ∀ n lk w, Fr seS seA w0 w → low D w0 w → Kc B R ex st w → sI w 3 = nI (D + 1) → aI w 27 D = nI t → aI w 26 t ≠ nI st → n + lk = N → lk + 4 * cu w ≤ lk0 + 4 * cu w0 → (∀ u, t < u → aI w 26 u = aI w0 26 u) → (∀ u, aI w0 26 u = nI st → aI w 26 u = nI st) → (1 ≤ npB B t → aI w 26 (aB B t) = nI st) → (2 ≤ npB B t → aI w 26 (bB B t) = nI st) →
          (cnu B R ex t = true → Found N (d + 33) B R ex way st t D n lk (-1) w0 w) ∧ (cnu B R ex t = false → Cont N (d + 33) B R ex way st t D n lk (-1) w0 w (lk0 + 4 * cu w0)) := by
        intro n lk w fr lo ki h3 h27 hc hn hF h26 hmo ca cb
        obtain ⟨n, rfl⟩ : ∃ n1, n = n1 + 1 := ⟨n - 1, by omega⟩
        have pa : 1 ≤ npB B t → cnu B R ex (aB B t) = false := fun z => by
          have := hnp.2.2.1 z
          exact (ki.2.2 _ (by omega) (ca z)).2
        have pb : 2 ≤ npB B t → cnu B R ex (bB B t) = false := fun z => by
          have := hnp.2.2.2.1 z
          exact (ki.2.2 _ (by omega) (cb z)).2
        have rbw : RB B w := rb0.k fr
        obtain ⟨w1, w1f, l1, l2⟩ := cLeave G gr (N := N) (d := d) (D := D) (t := t) (st := st) hN hex hw rbw (rc0.k fr) (by rw [fr.1 5 rfl]; exact h50) h3 ki.1 ht
        have fr1 : Fr seS seA w0 w1 := fr.tr (w1f.mn (fun _ _ => rfl) (fun k hk => by simp only [Bool.or_eq_false_iff] at hk; exact hk.2))
        have turn : fX3_search_32 N (d + 33) (n + 1) w (nI way) (-1) (nI lk) = c_cl (eX3_leave N (d + 33) w (nI t) (nI way)) fun w11 v12 => fX3_search_32 N (d + 33) n w11 (nI way) v12 (nI (lk + 1)) := by
          rw [cTurn (B := B) h3 (by omega) h27 (by omega), cNext G (d := d + 32) rbw ht ki.1, cl_s]
          have hv : (if 1 ≤ npB B t ∧ aI w 26 (aB B t) ≠ nI st then nI (aB B t) else if 2 ≤ npB B t ∧ aI w 26 (bB B t) ≠ nI st then nI (bB B t) else -1) = -1 := by
            rw [if_neg (fun z => z.2 (ca z.1)), if_neg (fun z => z.2 (cb z.1))]
          rw [hv, if_pos rfl]
        by_cases hdue : way = 1 ∧ RA B R ex t ≠ 2000
        · obtain ⟨j1, j2⟩ := l1 hdue
          have hp2 : ptu B R ex way t = ([], t) := by
            rw [hpt, if_neg fst, if_neg, if_neg]
            · rintro ⟨z1, z2⟩
              rw [pb z1] at z2
              cases z2
            · rintro ⟨z1, z2⟩
              rw [pa z1] at z2
              cases z2
          refine ⟨fun _ => ?_, fun z => absurd (hcnu.mpr (Or.inl hdue.2)) (by rw [z]; decide)⟩
          obtain ⟨n, rfl⟩ : ∃ n1, n = n1 + 1 := ⟨n - 1, by omega⟩
          unfold Found
          rw [hp2, turn, j1, cl_s]
          exact ⟨w1, cStop (by omega), ⟨by rw [w1f.1 3 rfl]; exact h3, by rw [(w1f.2 27 rfl).1]; exact h27⟩, j2, lo.tr (fun i _ => by rw [(w1f.2 27 rfl).1]), fr1, ⟨by rw [w1f.1 4 rfl]; exact ki.1, by rw [(w1f.2 26 rfl).1]; exact ki.2.1, by rw [(w1f.2 26 rfl).1]; exact ki.2.2⟩⟩
        · have hra2 : RA B R ex t = 2000 := by
            apply Decidable.byContradiction
            intro z
            rcases hw with q | q
            · exact z (hra q)
            · exact hdue ⟨q, z⟩
          have cf : cnu B R ex t = false := hcf.mpr (by
            rintro (z | ⟨z1, z2⟩ | ⟨z1, z2⟩)
            · exact z hra2
            · rw [pa z1] at z2
              cases z2
            · rw [pb z1] at z2
              cases z2)
          refine ⟨fun z => absurd z (by rw [cf]; decide), fun _ => ?_⟩
          unfold Cont
          rw [turn, l2 hdue, cl_s]
          have k4 : sI w1 4 = nI st := by rw [w1f.1 4 rfl]; exact ki.1
          have k26 : aI w1 26 = aI w 26 := (w1f.2 26 rfl).1
          have hcu : cu (pI (pA w1 26 (upd (aI w1 26) t (nI st))) 3 (nI D)) + 1 = cu w := by
            show cntU (upd (aI w1 26) t (nI st)) (sI w1 4) 1000 + 1 = cntU (aI w 26) (sI w 4) 1000
            rw [k4, ki.1, k26]
            exact (cntU_up hc 1000).1 (by omega)
          have v26 : ∀ u, aI (pI (pA w1 26 (upd (aI w1 26) t (nI st))) 3 (nI D)) 26 u = if u = t then nI st else aI w 26 u := fun u => by
            show upd (aI w1 26) t (nI st) u = _
            by_cases eu : u = t
            · rw [if_pos eu, eu, upd_s]
            · rw [if_neg eu, upd_n eu, k26]
          refine ⟨_, n, lk + 1, rfl, rfl, lo.tr (fun i _ => congrFun (w1f.2 27 rfl).1 i), (fr1.pa rfl).pi rfl, ⟨k4, fun j hj => ?_, fun u hu h => ?_⟩, by rw [v26, if_pos rfl], by omega, by omega, fun u hu => by rw [v26, if_neg (by omega)]; exact h26 u hu, fun u hu => ?_⟩
          · rw [v26]
            split
            · exact ⟨st, Nat.le_refl _, rfl⟩
            · exact ki.2.1 j hj
          · rw [v26] at h
            by_cases eu : u = t
            · rw [eu]; exact ⟨ht, cf⟩
            · rw [if_neg eu] at h
              exact ki.2.2 u hu h
          · rw [v26]
            split
            · rfl
            · exact hmo u hu
      -- a part that is entered
      have enter : ∀ i p, (i = 0 ∧ 1 ≤ npB B t ∧ p = aB B t ∨ i = 1 ∧ 2 ≤ npB B t ∧ p = bB B t) → ∀ n lk w, Fr seS seA w0 w → low D w0 w → Kc B R ex st w → sI w 3 = nI (D + 1) → aI w 27 D = nI t → aI w 26 t ≠ nI st → n + lk = N → lk + 4 * cu w ≤ lk0 + 4 * cu w0 → (∀ u, t < u → aI w 26 u = aI w0 26 u) → (∀ u, aI w0 26 u = nI st → aI w 26 u = nI st) → aI w 26 p ≠ nI st → (i = 1 → 1 ≤ npB B t → aI w 26 (aB B t) = nI st) →
          (∀ n2 lk2 w2, Fr seS seA w0 w2 → low D w0 w2 → Kc B R ex st w2 → sI w2 3 = nI (D + 1) → aI w2 27 D = nI t → aI w2 26 t ≠ nI st → n2 + lk2 = N → lk2 + 4 * cu w2 ≤ lk0 + 4 * cu w0 → (∀ u, t < u → aI w2 26 u = aI w0 26 u) → (∀ u, aI w0 26 u = nI st → aI w2 26 u = nI st) → (∀ u, aI w 26 u = nI st → aI w2 26 u = nI st) → aI w2 26 p = nI st → (cnu B R ex t = true → Found N (d + 33) B R ex way st t D n2 lk2 (-1) w0 w2) ∧ (cnu B R ex t = false → Cont N (d + 33) B R ex way st t D n2 lk2 (-1) w0 w2 (lk0 + 4 * cu w0))) →
          (cnu B R ex t = true → Found N (d + 33) B R ex way st t D n lk (-1) w0 w) ∧ (cnu B R ex t = false → Cont N (d + 33) B R ex way st t D n lk (-1) w0 w (lk0 + 4 * cu w0)) := by
        intro i p hip n lk w fr lo ki h3 h27 hc hn hF h26 hmo hpc hca kont
        obtain ⟨n, rfl⟩ : ∃ n1, n = n1 + 1 := ⟨n - 1, by omega⟩
        have hpt1 : p < t := by
          rcases hip with ⟨_, z1, z2⟩ | ⟨_, z1, z2⟩
          · have := hnp.2.2.1 z1; omega
          · have := hnp.2.2.2.1 z1; omega
        have rbw : RB B w := rb0.k fr
        have rcw : RRc R w := rc0.k fr
        have h5w : sI w 5 = eN ex := by rw [fr.1 5 rfl]; exact h50
        obtain ⟨w8, e1, e2, e3⟩ := cEnter G gr (N := N) (d := d) (way := way) (D := D + 1) (p := p) hN hex hw rbw rcw h5w h3 (by omega) (by omega)
        have turn : fX3_search_32 N (d + 33) (n + 1) w (nI way) (-1) (nI lk) = fX3_search_32 N (d + 33) n w8 (nI way) (ru0 B R ex way p) (nI (lk + 1)) := by
          rw [cTurn (B := B) h3 (by omega) h27 (by omega), cNext G (d := d + 32) rbw ht ki.1, cl_s]
          have hv : (if 1 ≤ npB B t ∧ aI w 26 (aB B t) ≠ nI st then nI (aB B t) else if 2 ≤ npB B t ∧ aI w 26 (bB B t) ≠ nI st then nI (bB B t) else -1) = nI p := by
            rcases hip with ⟨z0, z1, z2⟩ | ⟨z0, z1, z2⟩
            · rw [z2] at hpc ⊢
              rw [if_pos ⟨z1, hpc⟩]
            · rw [if_neg (fun z => z.2 (hca z0 z.1))]
              rw [z2] at hpc ⊢
              rw [if_pos ⟨z1, hpc⟩]
          rw [hv, if_neg (nI_m1 (by omega)), e1, cl_s]
        have z3 : sI w8 3 = nI (D + 1 + 1) := by rw [e2.1 3 rfl]; rfl
        have z4 : sI w8 4 = nI st := by rw [e2.1 4 rfl]; exact ki.1
        have z26 : aI w8 26 = aI w 26 := by rw [(e2.2 26 rfl).1]; rfl
        have z27 : ∀ j, aI w8 27 j = if j = D + 1 then nI p else aI w 27 j := fun j => by
          have : aI w8 27 = upd (aI w 27) (D + 1) (nI p) := by rw [(e2.2 27 rfl).1]; rfl
          rw [this]
          by_cases ej : j = D + 1
          · rw [if_pos ej, ej, upd_s]
          · rw [if_neg ej, upd_n ej]
        have f8 : Fr seS seA w0 (pI (pA w 27 (upd (aI w 27) (D + 1) (nI p))) 3 (nI (D + 1 + 1))) := (fr.pa rfl).pi rfl
        have fr8 : Fr seS seA w0 w8 := f8.tr (e2.mn (fun _ _ => rfl) (fun k hk => by simp only [Bool.or_eq_false_iff] at hk; exact hk.2))
        have ki8 : Kc B R ex st w8 := ⟨z4, by rw [z26]; exact ki.2.1, by rw [z26]; exact ki.2.2⟩
        have cu8 : cu w8 = cu w := by unfold cu; rw [z26, z4, ki.1]
        have lo8 : low D w0 w8 := lo.tr (fun j hj => by rw [z27, if_neg (by omega)])
        obtain ⟨r1, r2⟩ := ih p (D + 1) n (lk + 1) w8 (by omega) (by omega) (by omega) (rb0.k fr8) (rc0.k fr8) (by rw [fr8.1 5 rfl]; exact h50) ki8 z3 (by rw [z27, if_pos rfl]) (by rw [z26]; exact hpc) e3 (by omega) (by rw [cu8]; omega)
        cases hcn : cnu B R ex p with
        | true =>
          obtain ⟨w2, q1, q2, q3, q4, q5, q6⟩ := r1 hcn
          have hpt2 : ptu B R ex way t = ((t, i) :: (ptu B R ex way p).1, (ptu B R ex way p).2) := by
            rw [hpt, if_neg fst]
            rcases hip with ⟨y0, y1, y2⟩ | ⟨y0, y1, y2⟩
            · rw [y2] at hcn
              rw [if_pos ⟨y1, hcn⟩, y0, y2]
            · rw [if_neg (fun z => by
                have la := hnp.2.2.1 z.1
                have := (ki.2.2 _ (by omega) (hca y0 z.1)).2
                rw [this] at z
                exact absurd z.2 (by decide))]
              rw [y2] at hcn
              rw [if_pos ⟨y1, hcn⟩, y0, y2]
          have ctrue : cnu B R ex t = true := by
            refine hcnu.mpr (Or.inr ?_)
            rcases hip with ⟨y0, y1, y2⟩ | ⟨y0, y1, y2⟩
            · rw [y2] at hcn
              exact Or.inl ⟨y1, hcn⟩
            · rw [y2] at hcn
              exact Or.inr ⟨y1, hcn⟩
          refine ⟨fun _ => ?_, fun z => absurd ctrue (by rw [z]; decide)⟩
          unfold Found
          rw [hpt2, turn]
          refine ⟨w2, q1, ⟨?_, q2⟩, q3, lo8.tr (q4.mn (by omega)), fr8.tr q5, q6⟩
          rw [q4 D (by omega), z27, if_neg (by omega)]
          exact h27
        | false =>
          obtain ⟨w2, n2, lk2, q1, q2, q3, q4, q5, q6, q7, q8, q9, q10⟩ := r2 hcn
          have := kont n2 lk2 w2 (fr8.tr q4) (lo8.tr (q3.mn (by omega))) q5 q2 (by rw [q3 D (by omega), z27, if_neg (by omega)]; exact h27) (by rw [q9 t (by omega), z26]; exact hc) q7 (by rw [cu8] at q8; omega) (fun u hu => by rw [q9 u (by omega), z26]; exact h26 u hu) (fun u hu => q10 u (by rw [z26]; exact hmo u hu)) (fun u hu => q10 u (by rw [z26]; exact hu)) q6
          unfold Found Cont at this ⊢
          rw [turn, q1]
          exact this
      -- the first part is clean
      have stB : ∀ n lk w, Fr seS seA w0 w → low D w0 w → Kc B R ex st w → sI w 3 = nI (D + 1) → aI w 27 D = nI t → aI w 26 t ≠ nI st → n + lk = N → lk + 4 * cu w ≤ lk0 + 4 * cu w0 → (∀ u, t < u → aI w 26 u = aI w0 26 u) → (∀ u, aI w0 26 u = nI st → aI w 26 u = nI st) → (1 ≤ npB B t → aI w 26 (aB B t) = nI st) →
          (cnu B R ex t = true → Found N (d + 33) B R ex way st t D n lk (-1) w0 w) ∧ (cnu B R ex t = false → Cont N (d + 33) B R ex way st t D n lk (-1) w0 w (lk0 + 4 * cu w0)) := by
        intro n lk w fr lo ki h3 h27 hc hn hF h26 hmo ca
        by_cases q : 2 ≤ npB B t ∧ aI w 26 (bB B t) ≠ nI st
        · exact enter 1 (bB B t) (Or.inr ⟨rfl, q.1, rfl⟩) n lk w fr lo ki h3 h27 hc hn hF h26 hmo q.2 (fun _ => ca) (fun n2 lk2 w2 a1 a2 a3 a4 a5 a6 a7 a8 a9 a10 a11 a12 => stC n2 lk2 w2 a1 a2 a3 a4 a5 a6 a7 a8 a9 a10 (fun z => a11 _ (ca z)) (fun _ => a12))
        · refine stC n lk w fr lo ki h3 h27 hc hn hF h26 hmo ca (fun z => ?_)
          apply Decidable.byContradiction
          intro y
          exact q ⟨z, y⟩
      by_cases q : 1 ≤ npB B t ∧ aI w0 26 (aB B t) ≠ nI st
      · exact enter 0 (aB B t) (Or.inl ⟨rfl, q.1, rfl⟩) n0 lk0 w0 (Fr.rf w0) (low.rf w0) ki0 hs3 hs27 hcl hn0 (Nat.le_refl _) (fun _ _ => rfl) (fun _ h => h) q.2 (fun z => absurd z (by decide)) (fun n2 lk2 w2 a1 a2 a3 a4 a5 a6 a7 a8 a9 a10 a11 a12 => stB n2 lk2 w2 a1 a2 a3 a4 a5 a6 a7 a8 a9 a10 (fun _ => a12))
      · refine stB n0 lk0 w0 (Fr.rf w0) (low.rf w0) ki0 hs3 hs27 hcl hn0 (Nat.le_refl _) (fun _ _ => rfl) (fun _ h => h) (fun z => ?_)
        apply Decidable.byContradiction
        intro y
        exact q ⟨z, y⟩
