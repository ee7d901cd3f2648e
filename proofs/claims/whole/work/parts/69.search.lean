/-! the class looks for the first place -/
abbrev seS : Nat → Bool := fun k => k == 3
abbrev seA : Nat → Bool := fun k => k == 26 || k == 27 || k == 28 || k == 29
def cntU (f : Nat → Int32) (s : Int32) : Nat → Nat
  | 0 => 0
  | n + 1 => cntU f s n + (if f n = s then 0 else 1)
theorem cntU_le {f : Nat → Int32} {s : Int32} : ∀ n, cntU f s n ≤ n := by
  intro n
  induction n with
  | zero => exact Nat.le_refl _
  | succ n ih => unfold cntU; split <;> omega
theorem cntU_up {f : Nat → Int32} {s : Int32} {k : Nat} (h : f k ≠ s) : ∀ n, (k < n → cntU (upd f k s) s n + 1 = cntU f s n) ∧ (n ≤ k → cntU (upd f k s) s n = cntU f s n) := by
  intro n
  induction n with
  | zero => exact ⟨fun h => by omega, fun _ => rfl⟩
  | succ n ih =>
    unfold cntU
    refine ⟨fun hk => ?_, fun hk => ?_⟩
    · by_cases e : n = k
      · subst e
        rw [upd_s, if_pos rfl, if_neg h, ih.2 (by omega)]
      · rw [upd_n e]
        have := ih.1 (by omega)
        omega
    · rw [upd_n (by omega), ih.2 (by omega)]
def cu (w : Wd) : Nat := cntU (aI w 26) (sI w 4) 1000
/-- clean is what holds no place -/
def Kc (B : Bk) (R : Ru) (ex st : Nat) (w : Wd) : Prop := sI w 4 = nI st ∧ (∀ j, j < 1000 → ∃ c, c ≤ st ∧ aI w 26 j = nI c) ∧ ∀ t, t < 1000 → aI w 26 t = nI st → t < nB B ∧ cnu B R ex t = false
/-- the way that the class has gone -/
def Stk (w : Wd) : Nat → List (Nat × Nat) → Nat → Prop
  | D, [], u => sI w 3 = nI (D + 1) ∧ aI w 27 D = nI u
  | D, x :: l, u => aI w 27 D = nI x.1 ∧ aI w 28 D = nI (x.2 + 1) ∧ Stk w (D + 1) l u
def low (D : Nat) (w w2 : Wd) : Prop := ∀ i, i < D → aI w2 27 i = aI w 27 i ∧ aI w2 28 i = aI w 28 i
theorem low.tr {D : Nat} {w w2 w3 : Wd} (h : low D w w2) (g : low D w2 w3) : low D w w3 := fun i hi => ⟨(g i hi).1.trans (h i hi).1, (g i hi).2.trans (h i hi).2⟩
theorem low.mn {D E : Nat} {w w2 : Wd} (h : low E w w2) (hd : D ≤ E) : low D w w2 := fun i hi => h i (by omega)
theorem low.rf {D : Nat} (w : Wd) : low D w w := fun _ _ => ⟨rfl, rfl⟩
def Found (N d : Nat) (B : Bk) (R : Ru) (ex way st t D n lk : Nat) (w0 w : Wd) : Prop :=
  ∃ w2, fX3_search_12 N d n w (nI way) (nI lk) = some (w2, nI (RA B R ex (ptu B R ex way t).2)) ∧ Stk w2 D (ptu B R ex way t).1 (ptu B R ex way t).2 ∧ (∀ σ, mt B (R.2.1 (RA B R ex (ptu B R ex way t).2)) (ptu B R ex way t).2 = some σ → ∀ v, v < 4 → aI w2 29 v = eN (σ v)) ∧ low D w0 w2 ∧ Fr seS seA w0 w2 ∧ Kc B R ex st w2
def Cont (N d : Nat) (B : Bk) (R : Ru) (ex way st t D n lk : Nat) (w0 w : Wd) (F : Nat) : Prop :=
  ∃ w2 n2 lk2, fX3_search_12 N d n w (nI way) (nI lk) = fX3_search_12 N d n2 w2 (nI way) (nI lk2) ∧ sI w2 3 = nI D ∧ low D w0 w2 ∧ Fr seS seA w0 w2 ∧ Kc B R ex st w2 ∧ aI w2 26 t = nI st ∧ n2 + lk2 = N ∧ lk2 + 4 * cu w2 ≤ F ∧ ∀ u, t < u → aI w2 26 u = aI w0 26 u
theorem cEnter {N d D st p : Nat} {w : Wd} (h3 : sI w 3 = nI (D + 1)) (hD : D + 1 < 1000) (hp : p < 1000) (h4 : sI w 4 = nI st) :
    (aI w 26 p = nI st → eX3_enter N (d + 1) w (nI p) = some w) ∧ (aI w 26 p ≠ nI st → eX3_enter N (d + 1) w (nI p) = some (pI (pA (pA w 27 (upd (aI w 27) (D + 1) (nI p))) 28 (upd (aI w 28) (D + 1) 0)) 3 (nI (D + 1 + 1)))) := by
  have key : eX3_enter N (d + 1) w (nI p) = bX3_enter_0 N d w (nI p) := rfl
  rw [key]
  unfold bX3_enter_0 bX3_enter_53
  simp only [c_pi]
  rw [ld_n (by omega) (by omega), h4, h3]
  refine ⟨fun h => by rw [if_pos h], fun h => ?_⟩
  rw [if_neg h, if_neg (show ¬ (1000 : Int32) ≤ nI (D + 1) from fun z => by rw [show (1000 : Int32) = nI 1000 from rfl, nI_leI (by omega) (by omega)] at z; omega), st_n (by omega) (by omega)]
  have z1 : ∀ f, sI (pA w 27 f) 3 = nI (D + 1) := fun f => h3
  rw [z1, st_n (by omega) (by omega)]
  have z2 : ∀ f g, sI (pA (pA w 27 f) 28 g) 3 = nI (D + 1) := fun f g => h3
  rw [z2, nI_1]
  rfl
theorem cIter {B : Bk} {R : Ru} (G : GB B) (gr : GR B R) {N d ex way t D e n lk : Nat} {w : Wd} (hN : 2000000 ≤ N) (hex : ex < 16 ∨ ex = 2000) (hw : way = 0 ∨ way = 1) (ht : t < nB B) (hD : D < 1000) (rb : RB B w) (rc : RRc R w) (h5 : sI w 5 = eN ex) (h3 : sI w 3 = nI (D + 1)) (h27 : aI w 27 D = nI t) (h28 : aI w 28 D = nI e) (he : e ≤ 2) (hlk : lk < 1000000) :
    ∃ w1, Fr noS (fun k => k == 29) w w1 ∧ (((way = 0 ∧ e = 0) ∨ (way = 1 ∧ e = npB B t)) ∧ RA B R ex t ≠ 2000 → fX3_search_12 N (d + 32) (n + 1) w (nI way) (nI lk) = some (w1, nI (RA B R ex t)) ∧ ∀ σ, mt B (R.2.1 (RA B R ex t)) t = some σ → ∀ v, v < 4 → aI w1 29 v = eN (σ v)) ∧
      (¬ (((way = 0 ∧ e = 0) ∨ (way = 1 ∧ e = npB B t)) ∧ RA B R ex t ≠ 2000) → fX3_search_12 N (d + 32) (n + 1) w (nI way) (nI lk) = bX3_search_118 N (d + 32) (fX3_search_12 N (d + 32) n) w1 (nI way) (nI lk) (nI D) (nI t) (nI (npB B t)) (-1)) := by
  have g1 := G.1
  have gr1 := gr.1
  have hal := G.a_le ht
  have hnp := (G.np ht).1
  have hin := RA_in B R ex t
  have e12 : aI w 12 (hB B t) = nI (npB B t) := (rb.2.2.1 _ (G.2.2.2.2.1 t ht).1).1
  have key : fX3_search_12 N (d + 32) (n + 1) w (nI way) (nI lk) = bX3_search_12 N (d + 32) (fX3_search_12 N (d + 32) n) w (nI way) (nI lk) := rfl
  have hwN : nI way = 0 ↔ way = 0 := by rw [show (0 : Int32) = nI 0 from rfl, nI_eq (by omega) (by omega)]
  have heN : nI e = 0 ↔ e = 0 := by rw [show (0 : Int32) = nI 0 from rfl, nI_eq (by omega) (by omega)]
  have heP : nI e = nI (npB B t) ↔ e = npB B t := nI_eq (by omega) (by omega)
  have exp : bX3_search_12 N (d + 32) (fX3_search_12 N (d + 32) n) w (nI way) (nI lk) = if ((way = 0 ∧ e = 0) ∨ (way = 1 ∧ e = npB B t)) then bX3_search_101 N (d + 32) (fX3_search_12 N (d + 32) n) w (nI way) (nI lk) (nI D) (nI t) (nI (npB B t)) 1 else bX3_search_101 N (d + 32) (fX3_search_12 N (d + 32) n) w (nI way) (nI lk) (nI D) (nI t) (nI (npB B t)) 0 := by
    unfold bX3_search_12
    simp only [c_nm]
    rw [if_neg (show ¬ (1000000 : Int32) ≤ nI lk from fun z => by rw [show (1000000 : Int32) = nI 1000000 from rfl, nI_leI (by omega) (by omega)] at z; omega), h3, if_neg (show ¬ nI (D + 1) ≤ 0 from fun z => by rw [show (0 : Int32) = nI 0 from rfl, nI_leI (by omega) (by omega)] at z; omega), nI_pred, ld_n (by omega) (by omega), h27, ld_n (by omega) (by omega), (rb.2.2.2.1 t ht).1, ld_n (by omega) (by omega), e12, ld_n (by omega) (by omega), h28]
    rcases hw with q | q
    · rw [if_pos (hwN.mpr q)]
      by_cases q2 : e = 0
      · rw [if_pos (heN.mpr q2), if_pos (Or.inl ⟨q, q2⟩)]
      · rw [if_neg (fun z => q2 (heN.mp z)), if_neg (by omega)]
    · rw [if_neg (fun z => by rw [hwN] at z; omega), ld_n (by omega) (by omega), h28]
      by_cases q2 : e = npB B t
      · rw [if_pos (heP.mpr q2), if_pos (Or.inr ⟨q, q2⟩)]
      · rw [if_neg (fun z => q2 (heP.mp z)), if_neg (by omega)]
  rw [key, exp]
  by_cases due : (way = 0 ∧ e = 0) ∨ (way = 1 ∧ e = npB B t)
  · rw [if_pos due]
    unfold bX3_search_101
    rw [if_neg i10]
    obtain ⟨f, f1, f2⟩ := cRuleFor G gr (N := N) (d := d) hN ht hex rb rc h5
    rw [f1, cl_s]
    refine ⟨pA w 29 f, (Fr.rf w).pa rfl, fun h => ?_, fun h => ?_⟩
    · unfold bX3_search_118
      rw [if_neg (eN_m1 (by omega)), eN_n (by omega)]
      refine ⟨rfl, fun σ hσ v hv => ?_⟩
      rw [aI_pA, if_pos rfl]
      exact f2 σ hσ (by omega) v hv
    · have : RA B R ex t = 2000 := by
        apply Decidable.byContradiction
        intro z
        exact h ⟨due, z⟩
      rw [this, eN_no]
  · rw [if_neg due]
    unfold bX3_search_101
    rw [if_pos i00]
    exact ⟨w, Fr.rf w, fun h => absurd h.1 due, fun _ => rfl⟩
theorem cSrch {B : Bk} {R : Ru} (G : GB B) (gr : GR B R) {N d ex way st : Nat} (hN : 2000000 ≤ N) (hex : ex < 16 ∨ ex = 2000) (hw : way = 0 ∨ way = 1) (hst : st < 1000) : ∀ k t D n lk w, t < k → t < nB B → D + t < 1000 → RB B w → RRc R w → sI w 5 = eN ex → Kc B R ex st w → sI w 3 = nI (D + 1) → aI w 27 D = nI t → aI w 28 D = nI 0 → aI w 26 t ≠ nI st → n + lk = N → lk + 4 * cu w ≤ 5000 + 2 * D →
    (cnu B R ex t = true → Found N (d + 32) B R ex way st t D n lk w w) ∧ (cnu B R ex t = false → Cont N (d + 32) B R ex way st t D n lk w w (lk + 4 * cu w)) := by
  have g1 := G.1
  intro k
  induction k with
  | zero => intro t D n lk w h; omega
  | succ k ih =>
    intro t D n0 lk0 w0 hk ht hD rb0 rc0 h50 ki0 hs3 hs27 hs28 hcl hn0 hF0
    have hnp := G.np ht
    have hal := G.a_le ht
    have hin := RA_in B R ex t
    have gr1 := gr.1
    have hwN : nI way = 0 ↔ way = 0 := by rw [show (0 : Int32) = nI 0 from rfl, nI_eq (by omega) (by omega)]
    have hcnu := cnu_iff G (R := R) (ex := ex) ht
    have hcf : cnu B R ex t = false ↔ ¬ (RA B R ex t ≠ 2000 ∨ (1 ≤ npB B t ∧ cnu B R ex (aB B t) = true) ∨ (2 ≤ npB B t ∧ cnu B R ex (bB B t) = true)) := by
      rw [← hcnu]; simp
    have hpt := ptu_eq G (R := R) (ex := ex) (way := way) ht
    -- one phase: e parts have been entered
    have ph : ∀ m e, e + m = npB B t → ∀ n lk w, Fr seS seA w0 w → low D w0 w → Kc B R ex st w → sI w 3 = nI (D + 1) → aI w 27 D = nI t → aI w 28 D = nI e → aI w 26 t ≠ nI st → n + lk = N → lk + 4 * cu w ≤ lk0 + 4 * cu w0 + e → (∀ u, t < u → aI w 26 u = aI w0 26 u) →
        (0 < e → cnu B R ex (aB B t) = false) → (1 < e → cnu B R ex (bB B t) = false) → (way = 0 → 0 < e → RA B R ex t = 2000) →
        (cnu B R ex t = true → Found N (d + 32) B R ex way st t D n lk w0 w) ∧ (cnu B R ex t = false → Cont N (d + 32) B R ex way st t D n lk w0 w (lk0 + 4 * cu w0)) := by
      intro m
      induction m with
      | zero =>
        intro e he n lk w fr lo ki h3 h27 h28 hc hn hF h26 ca cb cr
        obtain ⟨n', rfl⟩ : ∃ n', n = n' + 1 := ⟨n - 1, by omega⟩
        obtain ⟨w1, w1f, it1, it2⟩ := cIter G gr (N := N) (d := d) (n := n') (lk := lk) hN hex hw ht (by omega) (rb0.k fr) (rc0.k fr) (by rw [fr.1 5 rfl]; exact h50) h3 h27 h28 (by omega) (by omega)
        have fr1 : Fr seS seA w0 w1 := fr.tr (w1f.mn (fun _ _ => rfl) (fun k hk => by simp only [Bool.or_eq_false_iff] at hk; exact hk.2))
        by_cases hdue : ((way = 0 ∧ e = 0) ∨ (way = 1 ∧ e = npB B t)) ∧ RA B R ex t ≠ 2000
        · obtain ⟨j1, j2⟩ := it1 hdue
          have hp2 : ptu B R ex way t = ([], t) := by
            rw [hpt]
            split
            · rfl
            · rw [if_neg, if_neg]
              · rintro ⟨z1, z2⟩
                rw [cb (by omega)] at z2
                cases z2
              · rintro ⟨z1, z2⟩
                rw [ca (by omega)] at z2
                cases z2
          refine ⟨fun _ => ?_, fun z => absurd (hcnu.mpr (Or.inl hdue.2)) (by rw [z]; decide)⟩
          unfold Found
          rw [hp2]
          exact ⟨w1, j1, ⟨by rw [w1f.1 3 rfl]; exact h3, by rw [(w1f.2 27 rfl).1]; exact h27⟩, j2, lo.tr (fun i _ => ⟨by rw [(w1f.2 27 rfl).1], by rw [(w1f.2 28 rfl).1]⟩), fr1, ⟨by rw [w1f.1 4 rfl]; exact ki.1, by rw [(w1f.2 26 rfl).1]; exact ki.2.1, by rw [(w1f.2 26 rfl).1]; exact ki.2.2⟩⟩
        · have hra : RA B R ex t = 2000 := by
            apply Decidable.byContradiction
            intro z
            apply hdue
            refine ⟨?_, z⟩
            rcases hw with q | q
            · refine Or.inl ⟨q, ?_⟩
              apply Decidable.byContradiction
              intro y
              exact z (cr q (by omega))
            · exact Or.inr ⟨q, by omega⟩
          have cf : cnu B R ex t = false := hcf.mpr (by
            rintro (z | ⟨z1, z2⟩ | ⟨z1, z2⟩)
            · exact z hra
            · rw [ca (by omega)] at z2
              cases z2
            · rw [cb (by omega)] at z2
              cases z2)
          refine ⟨fun z => absurd z (by rw [cf]; decide), fun _ => ?_⟩
          unfold Cont
          rw [it2 hdue]
          unfold bX3_search_118 bX3_search_214
          simp only [c_nm, c_pi]
          have k3 : sI w1 3 = nI (D + 1) := by rw [w1f.1 3 rfl]; exact h3
          have k4 : sI w1 4 = nI st := by rw [w1f.1 4 rfl]; exact ki.1
          have k28 : aI w1 28 D = nI e := by rw [(w1f.2 28 rfl).1]; exact h28
          have k26 : aI w1 26 = aI w 26 := (w1f.2 26 rfl).1
          rw [if_pos True.intro, ld_n (by omega) (by omega), k28, if_pos ((nI_leI (by omega) (by omega)).mpr (by omega)), k4, st_n (by omega) (by omega)]
          have z3 : ∀ f, sI (pA w1 26 f) 3 = nI (D + 1) := fun f => k3
          rw [z3, nI_pred, nI_1]
          have hcu : cu (pI (pA w1 26 (upd (aI w1 26) t (nI st))) 3 (nI D)) + 1 = cu w := by
            show cntU (upd (aI w1 26) t (nI st)) (sI w1 4) 1000 + 1 = cntU (aI w 26) (sI w 4) 1000
            rw [k4, ki.1, k26]
            exact (cntU_up hc 1000).1 (by omega)
          have v26 : ∀ u, aI (pI (pA w1 26 (upd (aI w1 26) t (nI st))) 3 (nI D)) 26 u = if u = t then nI st else aI w 26 u := fun u => by
            show upd (aI w1 26) t (nI st) u = _
            by_cases eu : u = t
            · rw [if_pos eu, eu, upd_s]
            · rw [if_neg eu, upd_n eu, k26]
          refine ⟨_, n', lk + 1, rfl, rfl, lo.tr (fun i _ => ⟨congrFun (w1f.2 27 rfl).1 i, congrFun (w1f.2 28 rfl).1 i⟩), (fr1.pa rfl).pi rfl, ⟨k4, fun j hj => ?_, fun u hu h => ?_⟩, by rw [v26, if_pos rfl], by omega, by omega, fun u hu => by rw [v26, if_neg (by omega)]; exact h26 u hu⟩
          · rw [v26]
            split
            · exact ⟨st, Nat.le_refl _, rfl⟩
            · exact ki.2.1 j hj
          · rw [v26] at h
            by_cases eu : u = t
            · rw [eu]; exact ⟨ht, cf⟩
            · rw [if_neg eu] at h
              exact ki.2.2 u hu h
      | succ m ihm =>
        intro e he n lk w fr lo ki h3 h27 h28 hc hn hF h26 ca cb cr
        obtain ⟨n', rfl⟩ : ∃ n', n = n' + 1 := ⟨n - 1, by omega⟩
        obtain ⟨w1, w1f, it1, it2⟩ := cIter G gr (N := N) (d := d) (n := n') (lk := lk) hN hex hw ht (by omega) (rb0.k fr) (rc0.k fr) (by rw [fr.1 5 rfl]; exact h50) h3 h27 h28 (by omega) (by omega)
        have fr1 : Fr seS seA w0 w1 := fr.tr (w1f.mn (fun _ _ => rfl) (fun k hk => by simp only [Bool.or_eq_false_iff] at hk; exact hk.2))
        have k3 : sI w1 3 = nI (D + 1) := by rw [w1f.1 3 rfl]; exact h3
        have k4 : sI w1 4 = nI st := by rw [w1f.1 4 rfl]; exact ki.1
        have k27 : aI w1 27 = aI w 27 := (w1f.2 27 rfl).1
        have k28 : aI w1 28 = aI w 28 := (w1f.2 28 rfl).1
        have k26 : aI w1 26 = aI w 26 := (w1f.2 26 rfl).1
        have lo1 : low D w0 w1 := lo.tr (fun i _ => ⟨congrFun k27 i, congrFun k28 i⟩)
        have ki1 : Kc B R ex st w1 := ⟨k4, by rw [k26]; exact ki.2.1, by rw [k26]; exact ki.2.2⟩
        by_cases hdue : ((way = 0 ∧ e = 0) ∨ (way = 1 ∧ e = npB B t)) ∧ RA B R ex t ≠ 2000
        · obtain ⟨j1, j2⟩ := it1 hdue
          have hp2 : ptu B R ex way t = ([], t) := by
            rw [hpt, if_pos]
            rcases hdue.1 with z | z
            · exact ⟨z.1, hdue.2⟩
            · omega
          refine ⟨fun _ => ?_, fun z => absurd (hcnu.mpr (Or.inl hdue.2)) (by rw [z]; decide)⟩
          unfold Found
          rw [hp2]
          exact ⟨w1, j1, ⟨k3, by rw [k27]; exact h27⟩, j2, lo1, fr1, ki1⟩
        · have hra : way = 0 → RA B R ex t = 2000 := fun q => by
            apply Decidable.byContradiction
            intro z
            apply hdue
            refine ⟨Or.inl ⟨q, ?_⟩, z⟩
            apply Decidable.byContradiction
            intro y
            exact z (cr q (by omega))
          -- the part that is entered now
          have hp : ∃ p, p < t ∧ p < nB B ∧ (if e = 0 then eN (aB B t) else eN (bB B t)) = nI p ∧ (e = 0 → p = aB B t) ∧ (e = 1 → p = bB B t) := by
            by_cases q : e = 0
            · have := hnp.2.2.1 (by omega)
              exact ⟨aB B t, this, by omega, by rw [if_pos q, eN_n (by omega)], fun _ => rfl, fun z => by omega⟩
            · have := hnp.2.2.2.1 (by omega)
              exact ⟨bB B t, this, by omega, by rw [if_neg q, eN_n (by omega)], fun z => absurd z q, fun _ => rfl⟩
          obtain ⟨p, hp1, hp2, hp3, hp4, hp5⟩ := hp
          have rb1 : RB B w1 := rb0.k fr1
          -- the iteration
          generalize hw13 : pA w1 28 (upd (aI w1 28) D (nI (e + 1))) = w13
          have s3 : sI w13 3 = nI (D + 1) := by rw [← hw13]; exact k3
          have s4 : sI w13 4 = nI st := by rw [← hw13]; exact k4
          have s26 : aI w13 26 = aI w 26 := by rw [← hw13]; exact k26
          have s27 : aI w13 27 = aI w 27 := by rw [← hw13]; exact k27
          have s28 : ∀ i, aI w13 28 i = if i = D then nI (e + 1) else aI w 28 i := fun i => by
            rw [← hw13, aI_pA, if_pos rfl]
            by_cases ei : i = D
            · rw [if_pos ei, ei, upd_s]
            · rw [if_neg ei, upd_n ei, k28]
          have fr13 : Fr seS seA w0 w13 := by rw [← hw13]; exact fr1.pa rfl
          have rb13 : RB B w13 := rb0.k fr13
          have lo13 : low D w0 w13 := lo.tr (fun i hi => ⟨by rw [s27], by rw [s28, if_neg (by omega)]⟩)
          have ki13 : Kc B R ex st w13 := ⟨s4, by rw [s26]; exact ki.2.1, by rw [s26]; exact ki.2.2⟩
          have cu13 : cu w13 = cu w := by unfold cu; rw [s26, s4, ki.1]
          have hit : fX3_search_12 N (d + 32) (n' + 1) w (nI way) (nI lk) = c_cv (eX3_enter N (d + 32) w13 (nI p)) fun w16 => fX3_search_12 N (d + 32) n' w16 (nI way) (nI (lk + 1)) := by
            rw [it2 hdue]
            unfold bX3_search_118 bX3_search_187 bX3_search_214
            simp only [c_nm, c_pi]
            rw [if_pos True.intro, ld_n (by omega) (by omega), k28, h28, if_neg (fun z => by rw [nI_leI (by omega) (by omega)] at z; omega), ld_n (by omega) (by omega), k28, h28, nI_1, st_n (by omega) (by omega)]
            rw [k28] at hw13
            rw [k28, hw13, ld_n (by omega) (by omega), s28, if_pos rfl, ld_n (by omega) (by omega), (rb13.2.2.2.1 t ht).2.1, ld_n (by omega) (by omega), (rb13.2.2.2.1 t ht).2.2.1, nI_1]
            by_cases q : e = 0
            · rw [if_pos q] at hp3
              rw [if_pos (by rw [q]; rfl), hp3]
            · rw [if_neg q] at hp3
              rw [if_neg (show ¬ nI (e + 1) = 1 from fun z => q (by rw [show (1 : Int32) = nI 1 from rfl, nI_eq (by omega) (by omega)] at z; omega)), hp3]
          -- behind a part without a place
          have goon : ∀ n2 lk2 w2, cnu B R ex p = false → Fr seS seA w0 w2 → low D w0 w2 → Kc B R ex st w2 → sI w2 3 = nI (D + 1) → aI w2 27 D = nI t → aI w2 28 D = nI (e + 1) → aI w2 26 t ≠ nI st → n2 + lk2 = N → lk2 + 4 * cu w2 ≤ lk0 + 4 * cu w0 + (e + 1) → (∀ u, t < u → aI w2 26 u = aI w0 26 u) → fX3_search_12 N (d + 32) (n' + 1) w (nI way) (nI lk) = fX3_search_12 N (d + 32) n2 w2 (nI way) (nI lk2) →
              (cnu B R ex t = true → Found N (d + 32) B R ex way st t D (n' + 1) lk w0 w) ∧ (cnu B R ex t = false → Cont N (d + 32) B R ex way st t D (n' + 1) lk w0 w (lk0 + 4 * cu w0)) := by
            intro n2 lk2 w2 pf a1 a2 a3 a4 a5 a6 a7 a8 a9 a10 a11
            have := ihm (e + 1) (by omega) n2 lk2 w2 a1 a2 a3 a4 a5 a6 a7 a8 a9 a10 (fun _ => by
              by_cases q : e = 0
              · rw [← hp4 q]; exact pf
              · exact ca (by omega)) (fun z => by
              have q : e = 1 := by omega
              rw [← hp5 q]; exact pf) (fun q _ => hra q)
            unfold Found Cont at this ⊢
            rw [a11]
            exact this
          obtain ⟨en1, en2⟩ := cEnter (N := N) (d := d + 31) (D := D) (st := st) (p := p) (w := w13) s3 (by omega) (by omega) s4
          by_cases hcp : aI w13 26 p = nI st
          · refine goon n' (lk + 1) w13 (ki13.2.2 p (by omega) hcp).2 fr13 lo13 ki13 s3 (by rw [s27]; exact h27) (by rw [s28, if_pos rfl]) (by rw [s26]; exact hc) (by omega) (by rw [cu13]; omega) (fun u hu => by rw [s26]; exact h26 u hu) ?_
            have en3 : eX3_enter N (d + 32) w13 (nI p) = _ := en1 hcp
            rw [hit, en3, cv_s]
          · have en3 : eX3_enter N (d + 32) w13 (nI p) = _ := en2 hcp
            rw [en3, cv_s] at hit
            generalize hw16 : pI (pA (pA w13 27 (upd (aI w13 27) (D + 1) (nI p))) 28 (upd (aI w13 28) (D + 1) 0)) 3 (nI (D + 1 + 1)) = w16 at hit
            have t3 : sI w16 3 = nI (D + 1 + 1) := by rw [← hw16]; rfl
            have t4 : sI w16 4 = nI st := by rw [← hw16]; exact s4
            have t26 : aI w16 26 = aI w 26 := by rw [← hw16]; exact s26
            have t27 : ∀ i, aI w16 27 i = if i = D + 1 then nI p else aI w 27 i := fun i => by
              have : aI w16 27 = upd (aI w13 27) (D + 1) (nI p) := by rw [← hw16]; rfl
              rw [this]
              by_cases ei : i = D + 1
              · rw [if_pos ei, ei, upd_s]
              · rw [if_neg ei, upd_n ei, s27]
            have t28 : ∀ i, aI w16 28 i = if i = D + 1 then 0 else aI w13 28 i := fun i => by
              have : aI w16 28 = upd (aI w13 28) (D + 1) 0 := by rw [← hw16]; rfl
              rw [this]
              by_cases ei : i = D + 1
              · rw [if_pos ei, ei, upd_s]
              · rw [if_neg ei, upd_n ei]
            have fr16 : Fr seS seA w0 w16 := by rw [← hw16]; exact ((fr13.pa rfl).pa rfl).pi rfl
            have ki16 : Kc B R ex st w16 := ⟨t4, by rw [t26]; exact ki.2.1, by rw [t26]; exact ki.2.2⟩
            have cu16 : cu w16 = cu w := by unfold cu; rw [t26, t4, ki.1]
            have lo16 : low D w0 w16 := lo13.tr (fun i hi => ⟨by rw [t27, if_neg (by omega), s27], by rw [t28, if_neg (by omega)]⟩)
            obtain ⟨r1, r2⟩ := ih p (D + 1) n' (lk + 1) w16 (by omega) hp2 (by omega) (rb0.k fr16) (rc0.k fr16) (by rw [fr16.1 5 rfl]; exact h50) ki16 t3 (by rw [t27, if_pos rfl]) (by rw [t28, if_pos rfl]; rfl) (by rw [t26, ← s26]; exact hcp) (by omega) (by rw [cu16]; omega)
            cases hcn : cnu B R ex p with
            | true =>
              obtain ⟨w2, q1, q2, q3, q4, q5, q6⟩ := r1 hcn
              have hpt2 : ptu B R ex way t = ((t, e) :: (ptu B R ex way p).1, (ptu B R ex way p).2) := by
                rw [hpt, if_neg (fun z => z.2 (hra z.1))]
                by_cases q : e = 0
                · have hpa := hp4 q
                  rw [hpa] at hcn
                  rw [if_pos ⟨by omega, hcn⟩, q, hpa]
                · have e1 : e = 1 := by omega
                  have hpb := hp5 e1
                  rw [hpb] at hcn
                  rw [if_neg (fun z => by rw [ca (by omega)] at z; exact absurd z.2 (by decide)), if_pos ⟨by omega, hcn⟩, e1, hpb]
              have ctrue : cnu B R ex t = true := by
                refine hcnu.mpr (Or.inr ?_)
                by_cases q : e = 0
                · rw [hp4 q] at hcn
                  exact Or.inl ⟨by omega, hcn⟩
                · rw [hp5 (by omega)] at hcn
                  exact Or.inr ⟨by omega, hcn⟩
              refine ⟨fun _ => ?_, fun z => absurd ctrue (by rw [z]; decide)⟩
              unfold Found
              rw [hpt2]
              refine ⟨w2, by rw [hit]; exact q1, ⟨?_, ?_, q2⟩, q3, lo16.tr (q4.mn (by omega)), fr16.tr q5, q6⟩
              · rw [(q4 D (by omega)).1, t27, if_neg (by omega)]; exact h27
              · rw [(q4 D (by omega)).2, t28, if_neg (by omega), s28, if_pos rfl]
            | false =>
              obtain ⟨w2, n2, lk2, q1, q2, q3, q4, q5, q6, q7, q8, q9⟩ := r2 hcn
              refine goon n2 lk2 w2 hcn (fr16.tr q4) (lo16.tr (q3.mn (by omega))) q5 q2 ?_ ?_ ?_ q7 (by rw [cu16] at q8; omega) (fun u hu => ?_) (by rw [hit, q1])
              · rw [(q3 D (by omega)).1, t27, if_neg (by omega)]; exact h27
              · rw [(q3 D (by omega)).2, t28, if_neg (by omega), s28, if_pos rfl]
              · rw [q9 t (by omega), t26]; exact hc
              · rw [q9 u (by omega), t26]; exact h26 u hu
    exact ph (npB B t) 0 (by omega) n0 lk0 w0 (Fr.rf w0) (low.rf w0) ki0 hs3 hs27 hs28 hcl hn0 (by omega) (fun _ _ => rfl) (fun h => by omega) (fun h => by omega) (fun _ h => by omega)
