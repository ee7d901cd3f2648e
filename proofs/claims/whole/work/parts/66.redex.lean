/-! places for a step -/
def cn (B : Bk) (R : Ru) (ex : Nat) : Nat → Nat → Bool
  | 0 => fun _ => false
  | f + 1 => fun t => (!(decide (RA B R ex t = 2000))) || ((decide (1 ≤ npB B t) && cn B R ex f (aB B t)) || (decide (2 ≤ npB B t) && cn B R ex f (bB B t)))
def cnu (B : Bk) (R : Ru) (ex t : Nat) : Bool := cn B R ex (t + 1) t
theorem cn_st {B : Bk} (G : GB B) {R : Ru} {ex : Nat} : ∀ f t, t < f → t < nB B → cn B R ex f t = cnu B R ex t := by
  have key : ∀ k f g t, t < k → t < f → t < g → t < nB B → cn B R ex f t = cn B R ex g t := by
    intro k
    induction k with
    | zero => intro f g t h; omega
    | succ k ih =>
      intro f g t h hf hg ht
      obtain ⟨f, rfl⟩ : ∃ f2, f = f2 + 1 := ⟨f - 1, by omega⟩
      obtain ⟨g, rfl⟩ : ∃ g2, g = g2 + 1 := ⟨g - 1, by omega⟩
      have ha : (decide (1 ≤ npB B t) && cn B R ex f (aB B t)) = (decide (1 ≤ npB B t) && cn B R ex g (aB B t)) := by
        by_cases q : 1 ≤ npB B t
        · have := (G.np ht).2.2.1 q
          rw [ih f g _ (by omega) (by omega) (by omega) (by omega)]
        · rw [decide_eq_false q]; rfl
      have hb : (decide (2 ≤ npB B t) && cn B R ex f (bB B t)) = (decide (2 ≤ npB B t) && cn B R ex g (bB B t)) := by
        by_cases q : 2 ≤ npB B t
        · have := (G.np ht).2.2.2.1 q
          rw [ih f g _ (by omega) (by omega) (by omega) (by omega)]
        · rw [decide_eq_false q]; rfl
      show (_ || (_ || _)) = (_ || (_ || _))
      rw [ha, hb]
  intro f t h ht
  exact key (t + 1) f (t + 1) t (by omega) h (by omega) ht
theorem cnu_iff {B : Bk} (G : GB B) {R : Ru} {ex t : Nat} (ht : t < nB B) : cnu B R ex t = true ↔ (RA B R ex t ≠ 2000 ∨ (1 ≤ npB B t ∧ cnu B R ex (aB B t) = true) ∨ (2 ≤ npB B t ∧ cnu B R ex (bB B t) = true)) := by
  have e : cnu B R ex t = ((!(decide (RA B R ex t = 2000))) || ((decide (1 ≤ npB B t) && cn B R ex t (aB B t)) || (decide (2 ≤ npB B t) && cn B R ex t (bB B t)))) := rfl
  rw [e, Bool.or_eq_true, Bool.or_eq_true, Bool.and_eq_true, Bool.and_eq_true, decide_eq_true_iff, decide_eq_true_iff]
  have h1 : (!(decide (RA B R ex t = 2000))) = true ↔ RA B R ex t ≠ 2000 := by simp
  rw [h1]
  refine or_congr Iff.rfl (or_congr (and_congr_right fun q => ?_) (and_congr_right fun q => ?_))
  · have := (G.np ht).2.2.1 q
    rw [cn_st G _ _ (by omega) (by omega)]
  · have := (G.np ht).2.2.2.1 q
    rw [cn_st G _ _ (by omega) (by omega)]
/-- the way to the first place, by way 0 or 1 -/
def pt (B : Bk) (R : Ru) (ex way : Nat) : Nat → Nat → List (Nat × Nat) × Nat
  | 0 => fun t => ([], t)
  | f + 1 => fun t => if way = 0 ∧ RA B R ex t ≠ 2000 then ([], t) else if 1 ≤ npB B t ∧ cnu B R ex (aB B t) = true then ((t, 0) :: (pt B R ex way f (aB B t)).1, (pt B R ex way f (aB B t)).2) else if 2 ≤ npB B t ∧ cnu B R ex (bB B t) = true then ((t, 1) :: (pt B R ex way f (bB B t)).1, (pt B R ex way f (bB B t)).2) else ([], t)
def ptu (B : Bk) (R : Ru) (ex way t : Nat) : List (Nat × Nat) × Nat := pt B R ex way (t + 1) t
theorem pt_st {B : Bk} (G : GB B) {R : Ru} {ex way : Nat} : ∀ f t, t < f → t < nB B → pt B R ex way f t = ptu B R ex way t := by
  have key : ∀ k f g t, t < k → t < f → t < g → t < nB B → pt B R ex way f t = pt B R ex way g t := by
    intro k
    induction k with
    | zero => intro f g t h; omega
    | succ k ih =>
      intro f g t h hf hg ht
      obtain ⟨f, rfl⟩ : ∃ f2, f = f2 + 1 := ⟨f - 1, by omega⟩
      obtain ⟨g, rfl⟩ : ∃ g2, g = g2 + 1 := ⟨g - 1, by omega⟩
      unfold pt
      by_cases q0 : way = 0 ∧ RA B R ex t ≠ 2000
      · rw [if_pos q0, if_pos q0]
      · rw [if_neg q0, if_neg q0]
        by_cases q : 1 ≤ npB B t ∧ cnu B R ex (aB B t) = true
        · have := (G.np ht).2.2.1 q.1
          rw [if_pos q, if_pos q, ih f g _ (by omega) (by omega) (by omega) (by omega)]
        · rw [if_neg q, if_neg q]
          by_cases q2 : 2 ≤ npB B t ∧ cnu B R ex (bB B t) = true
          · have := (G.np ht).2.2.2.1 q2.1
            rw [if_pos q2, if_pos q2, ih f g _ (by omega) (by omega) (by omega) (by omega)]
          · rw [if_neg q2, if_neg q2]
  intro f t h ht
  exact key (t + 1) f (t + 1) t (by omega) h (by omega) ht
theorem ptu_eq {B : Bk} (G : GB B) {R : Ru} {ex way t : Nat} (ht : t < nB B) : ptu B R ex way t = if way = 0 ∧ RA B R ex t ≠ 2000 then ([], t) else if 1 ≤ npB B t ∧ cnu B R ex (aB B t) = true then ((t, 0) :: (ptu B R ex way (aB B t)).1, (ptu B R ex way (aB B t)).2) else if 2 ≤ npB B t ∧ cnu B R ex (bB B t) = true then ((t, 1) :: (ptu B R ex way (bB B t)).1, (ptu B R ex way (bB B t)).2) else ([], t) := by
  have e : ptu B R ex way t = if way = 0 ∧ RA B R ex t ≠ 2000 then ([], t) else if 1 ≤ npB B t ∧ cnu B R ex (aB B t) = true then ((t, 0) :: (pt B R ex way t (aB B t)).1, (pt B R ex way t (aB B t)).2) else if 2 ≤ npB B t ∧ cnu B R ex (bB B t) = true then ((t, 1) :: (pt B R ex way t (bB B t)).1, (pt B R ex way t (bB B t)).2) else ([], t) := rfl
  rw [e]
  by_cases q0 : way = 0 ∧ RA B R ex t ≠ 2000
  · rw [if_pos q0, if_pos q0]
  · rw [if_neg q0, if_neg q0]
    by_cases q : 1 ≤ npB B t ∧ cnu B R ex (aB B t) = true
    · have := (G.np ht).2.2.1 q.1
      rw [if_pos q, if_pos q, pt_st G _ _ (by omega) (by omega)]
    · rw [if_neg q, if_neg q]
      by_cases q2 : 2 ≤ npB B t ∧ cnu B R ex (bB B t) = true
      · have := (G.np ht).2.2.2.1 q2.1
        rw [if_pos q2, if_pos q2, pt_st G _ _ (by omega) (by omega)]
      · rw [if_neg q2, if_neg q2]
/-- a bank that has grown fits as before -/
theorem Ext.np {B B2 : Bk} (e : Ext B B2) {t : Nat} (ht : t < nB B) : npB B2 t = npB B t := by
  unfold npB
  rw [e.2.2.1, (e.2.2.2.2 t ht).1]
theorem Ext.bdE {B B2 : Bk} (G : GB B) (e : Ext B B2) : ∀ k σ p t, p < nB B → t < nB B → bd B2 k σ p t = bd B k σ p t := by
  intro k
  induction k with
  | zero => intro σ p t _ _; rfl
  | succ k ih =>
    intro σ p t hp ht
    have ep := e.2.2.2.2 p hp
    have et := e.2.2.2.2 t ht
    unfold bd
    rw [ep.1, ep.2.1, ep.2.2.1, et.1, et.2.1, et.2.2.1, e.np hp]
    by_cases q1 : hB B p < 10
    · rw [if_pos q1, if_pos q1]
      by_cases q2 : hB B p = hB B t
      · rw [if_pos q2, if_pos q2]
        have npe : npB B p = npB B t := by unfold npB; rw [q2]
        by_cases q3 : 1 ≤ npB B p
        · have pa := (G.np hp).2.2.1 q3
          have ta := (G.np ht).2.2.1 (by omega)
          rw [if_pos q3, if_pos q3, ih σ _ _ (by omega) (by omega)]
          cases bd B k σ (aB B p) (aB B t) with
          | none => rfl
          | some σ1 =>
            by_cases q4 : 2 ≤ npB B p
            · have pb := (G.np hp).2.2.2.1 q4
              have tb := (G.np ht).2.2.2.1 (by omega)
              simp only [if_pos q4]
              exact ih σ1 _ _ (by omega) (by omega)
            · simp only [if_neg q4]
        · rw [if_neg q3, if_neg q3]
      · rw [if_neg q2, if_neg q2]
    · rw [if_neg q1, if_neg q1]
theorem raL_cg {ok ok2 : Nat → Bool} {n : Nat} (h : ∀ r, r < n → ok2 r = ok r) : ∀ k, k ≤ n → raL ok2 n k = raL ok n k := by
  intro k
  induction k with
  | zero => intro _; rfl
  | succ k ih => intro hk; unfold raL; rw [h _ (by omega), ih (by omega)]
theorem Ext.ra {B B2 : Bk} {R : Ru} (G : GB B) (gr : GR B R) (e : Ext B B2) {ex t : Nat} (ht : t < nB B) : RA B2 R ex t = RA B R ex t := by
  unfold RA
  refine raL_cg (fun r hr => ?_) R.1 (Nat.le_refl _)
  unfold okR mt
  rw [e.bdE G 30 s0 _ t (gr.2 r hr).1 ht]
theorem Ext.cnE {B B2 : Bk} {R : Ru} (G : GB B) (G2 : GB B2) (gr : GR B R) (e : Ext B B2) {ex : Nat} : ∀ k t, t < k → t < nB B → cnu B2 R ex t = cnu B R ex t := by
  intro k
  induction k with
  | zero => intro t h; omega
  | succ k ih =>
    intro t h ht
    have en := e.1
    rw [Bool.eq_iff_iff, cnu_iff G2 (by omega), cnu_iff G ht, e.ra G gr ht, e.np ht, (e.2.2.2.2 t ht).2.1, (e.2.2.2.2 t ht).2.2.1]
    refine or_congr Iff.rfl (or_congr (and_congr_right fun q => ?_) (and_congr_right fun q => ?_))
    · have := (G.np ht).2.2.1 q
      rw [ih _ (by omega) (by omega)]
    · have := (G.np ht).2.2.2.1 q
      rw [ih _ (by omega) (by omega)]
/-! the reference marks where a step can be done -/
abbrev caA : Nat → Bool := fun k => k == 12 || k == 13 || k == 14
def CI (B : Bk) (R : Ru) (ex : Nat) (w : Wd) : Prop := ∀ t, t < nB B → aI w 13 t = 0 ∨ (aI w 13 t = (if cnu B R ex t = true then 1 else 2) ∧ aI w 14 t = eN (RA B R ex t) ∧ (1 ≤ npB B t → aI w 13 (aB B t) ≠ 0) ∧ (2 ≤ npB B t → aI w 13 (bB B t) ≠ 0))
theorem mCan {B : Bk} {R : Ru} (G : GB B) (gr : GR B R) {N ex : Nat} (hN : 2000000 ≤ N) (hex : ex < 16 ∨ ex = 2000) : ∀ k d t w, t < k → t < nB B → RM B w → RRm R w → sI w 5 = eN ex → CI B R ex w →
    ∃ w2, eX11_can N (d + k + 34) w (nI t) = some (w2, if cnu B R ex t = true then 1 else 0) ∧ Fr noS caA w w2 ∧ CI B R ex w2 ∧ aI w2 13 t ≠ 0 ∧ (∀ u, aI w 13 u ≠ 0 → aI w2 13 u ≠ 0) ∧ ∀ u, t < u → aI w2 14 u = aI w 14 u := by
  have g1 := G.1
  intro k
  induction k with
  | zero => intro d t w h; omega
  | succ k ih =>
    intro d t w hk ht rm rr h5 ci
    have key : eX11_can N (d + (k + 1) + 34) w (nI t) = bX11_can_0 N (d + k + 34) (eX11_can N (d + k + 34)) w (nI t) := rfl
    have hnp := G.np ht
    have ht12 : (1 : Int32) ≠ 0 := by decide
    have ht2 : (2 : Int32) ≠ 0 := by decide
    have h91 : ∀ w1, aI w1 13 t = (if cnu B R ex t = true then 1 else 2) → bX11_can_91 N (d + k + 34) (eX11_can N (d + k + 34)) w1 (nI t) = some (w1, if cnu B R ex t = true then 1 else 0) := by
      intro w1 h
      unfold bX11_can_91 bX11_can_106
      rw [ld_n (by omega) (by omega), h]
      by_cases q : cnu B R ex t = true
      · rw [if_pos q, if_pos rfl, if_pos q]
        exact bo01 (Or.inr rfl)
      · rw [if_neg q, if_neg (by decide), if_neg q]
        exact bo01 (Or.inl rfl)
    rw [key]
    unfold bX11_can_0
    rw [ld_n (by omega) (by omega)]
    by_cases e : aI w 13 t = 0
    · rw [if_pos e]
      obtain ⟨f, f1⟩ := mRuleAt G gr (N := N) (d := d + k) hN ht hex rm rr h5
      rw [f1, cl_s, st_n (by omega) (by omega), ld_n (by omega) (by omega), aI_pA, if_pos rfl, upd_s]
      generalize hw5 : pA (pA w 12 f) 14 (upd (aI (pA w 12 f) 14) t (eN (RA B R ex t))) = w5
      have fr5 : Fr noS caA w w5 := by rw [← hw5]; exact ((Fr.rf w).pa rfl).pa rfl
      have a13 : aI w5 13 = aI w 13 := by rw [← hw5]; rfl
      have a14 : aI w5 14 t = eN (RA B R ex t) := by rw [← hw5, aI_pA, if_pos rfl, upd_s]
      have k14 : ∀ u, t < u → aI w5 14 u = aI w 14 u := fun u hu => by rw [← hw5, aI_pA, if_pos rfl, upd_n (by omega)]; rfl
      have ci5 : CI B R ex w5 := by
        intro u hu
        rw [a13]
        rcases ci u hu with z | ⟨z1, z2, z3, z4⟩
        · exact Or.inl z
        · refine Or.inr ⟨z1, ?_, z3, z4⟩
          by_cases eu : u = t
          · rw [eu]; exact a14
          · rw [← hw5, aI_pA, if_pos rfl, upd_n eu]; exact z2
      -- the end: what was found is written
      have fin : ∀ w1, Fr noS caA w w1 → CI B R ex w1 → aI w1 14 t = eN (RA B R ex t) → (1 ≤ npB B t → aI w1 13 (aB B t) ≠ 0) → (2 ≤ npB B t → aI w1 13 (bB B t) ≠ 0) → (∀ u, aI w 13 u ≠ 0 → aI w1 13 u ≠ 0) → (∀ u, t < u → aI w1 14 u = aI w 14 u) → ∀ x2 : Int32, (x2 = 0 ∧ cnu B R ex t = false ∨ x2 = 1 ∧ cnu B R ex t = true) →
          ∃ w2, (if x2 = 0 then bX11_can_90 N (d + k + 34) (eX11_can N (d + k + 34)) w1 (nI t) (nI t) 2 else bX11_can_90 N (d + k + 34) (eX11_can N (d + k + 34)) w1 (nI t) (nI t) 1) = some (w2, if cnu B R ex t = true then 1 else 0) ∧ Fr noS caA w w2 ∧ CI B R ex w2 ∧ aI w2 13 t ≠ 0 ∧ (∀ u, aI w 13 u ≠ 0 → aI w2 13 u ≠ 0) ∧ ∀ u, t < u → aI w2 14 u = aI w 14 u := by
        intro w1 fr1 ci1 h14 hpa hpb hmon h14k x2 hx
        have main : ∀ y, y = (if cnu B R ex t = true then (1 : Int32) else 2) → ∃ w2, bX11_can_90 N (d + k + 34) (eX11_can N (d + k + 34)) w1 (nI t) (nI t) y = some (w2, if cnu B R ex t = true then 1 else 0) ∧ Fr noS caA w w2 ∧ CI B R ex w2 ∧ aI w2 13 t ≠ 0 ∧ (∀ u, aI w 13 u ≠ 0 → aI w2 13 u ≠ 0) ∧ ∀ u, t < u → aI w2 14 u = aI w 14 u := by
          intro y hy
          unfold bX11_can_90
          rw [st_n (by omega) (by omega)]
          have y0 : y ≠ 0 := by rw [hy]; split <;> decide
          have v13 : ∀ u, aI (pA w1 13 (upd (aI w1 13) t y)) 13 u = if u = t then y else aI w1 13 u := fun u => by
            rw [aI_pA, if_pos rfl]
            by_cases eu : u = t
            · rw [if_pos eu, eu, upd_s]
            · rw [if_neg eu, upd_n eu]
          have keep : ∀ u, aI w1 13 u ≠ 0 → aI (pA w1 13 (upd (aI w1 13) t y)) 13 u ≠ 0 := fun u hu => by
            rw [v13]
            split
            · exact y0
            · exact hu
          refine ⟨_, h91 _ (by rw [v13, if_pos rfl, hy]), fr1.pa rfl, fun u hu => ?_, by rw [v13, if_pos rfl]; exact y0, fun u hu => keep u (hmon u hu), h14k⟩
          by_cases eu : u = t
          · rw [eu]
            exact Or.inr ⟨by rw [v13, if_pos rfl, hy], h14, fun q => keep _ (hpa q), fun q => keep _ (hpb q)⟩
          · rw [v13, if_neg eu]
            rcases ci1 u hu with z | ⟨z1, z2, z3, z4⟩
            · exact Or.inl z
            · exact Or.inr ⟨z1, z2, fun q => keep _ (z3 q), fun q => keep _ (z4 q)⟩
        rcases hx with ⟨q1, q2⟩ | ⟨q1, q2⟩
        · rw [if_pos q1]; exact main 2 (by rw [q2]; rfl)
        · rw [if_neg (by rw [q1]; decide)]; exact main 1 (by rw [q2]; rfl)
      have parts : ∀ n w x2 j, fX11_can_38 N (d + k + 34) (eX11_can N (d + k + 34)) (n + 1) w (nI t) x2 j = bX11_can_38 N (d + k + 34) (eX11_can N (d + k + 34)) (fX11_can_38 N (d + k + 34) (eX11_can N (d + k + 34)) n) w (nI t) x2 j := fun n w x2 j => rfl
      obtain ⟨N2, hN2⟩ : ∃ N2, N = N2 + 1 + 1 + 1 := ⟨N - 3, by omega⟩
      have run : ∀ x2 : Int32, (x2 = 0 ∧ RA B R ex t = 2000 ∨ x2 = 1 ∧ RA B R ex t ≠ 2000) → ∃ w2, fX11_can_38 N (d + k + 34) (eX11_can N (d + k + 34)) (N2 + 1 + 1 + 1) w5 (nI t) x2 (nI 0) = some (w2, if cnu B R ex t = true then 1 else 0) ∧ Fr noS caA w w2 ∧ CI B R ex w2 ∧ aI w2 13 t ≠ 0 ∧ (∀ u, aI w 13 u ≠ 0 → aI w2 13 u ≠ 0) ∧ ∀ u, t < u → aI w2 14 u = aI w 14 u := by
        intro x2 hx
        have rm5 : RM B w5 := rm.k fr5
        rw [parts]
        unfold bX11_can_38 bX11_can_64 bX11_can_69
        simp only [c_nm]
        rw [mParts G rm5 ht, cl_s]
        have hcnu := cnu_iff G (R := R) (ex := ex) ht
        have hcf : cnu B R ex t = false ↔ ¬ (RA B R ex t ≠ 2000 ∨ (1 ≤ npB B t ∧ cnu B R ex (aB B t) = true) ∨ (2 ≤ npB B t ∧ cnu B R ex (bB B t) = true)) := by
          rw [← hcnu]; simp
        by_cases n1 : 1 ≤ npB B t
        · have la := hnp.2.2.1 n1
          rw [if_neg (fun z => by rw [nI_leI (by omega) (by omega)] at z; omega)]
          have e0 : eX11_partOf N (d + k + 34) w5 (nI t) (nI 0) = some (w5, eN (aB B t)) := mPartOf0 G rm5 ht
          rw [e0, cl_s, eN_n (by omega)]
          obtain ⟨w6, c1, c2, c3, c4, c5, c6⟩ := ih d (aB B t) w5 (by omega) (by omega) rm5 (rr.k fr5) (by rw [fr5.1 5 rfl]; exact h5) ci5
          rw [c1, cl_s, nI_1]
          have fr6 : Fr noS caA w w6 := fr5.tr c2
          have rm6 : RM B w6 := rm.k fr6
          have b14 : aI w6 14 t = eN (RA B R ex t) := by rw [c6 t (by omega)]; exact a14
          have b14k : ∀ u, t < u → aI w6 14 u = aI w 14 u := fun u hu => by rw [c6 u (by omega), k14 u hu]
          have bmon : ∀ u, aI w 13 u ≠ 0 → aI w6 13 u ≠ 0 := fun u hu => c5 u (by rw [a13]; exact hu)
          -- the flag behind the first part
          have next : ∀ y : Int32, (y = 0 ∧ ¬ (RA B R ex t ≠ 2000 ∨ cnu B R ex (aB B t) = true) ∨ y = 1 ∧ (RA B R ex t ≠ 2000 ∨ cnu B R ex (aB B t) = true)) → ∃ w2, fX11_can_38 N (d + k + 34) (eX11_can N (d + k + 34)) (N2 + 1 + 1) w6 (nI t) y (nI (0 + 1)) = some (w2, if cnu B R ex t = true then 1 else 0) ∧ Fr noS caA w w2 ∧ CI B R ex w2 ∧ aI w2 13 t ≠ 0 ∧ (∀ u, aI w 13 u ≠ 0 → aI w2 13 u ≠ 0) ∧ ∀ u, t < u → aI w2 14 u = aI w 14 u := by
            intro y hy
            rw [parts]
            unfold bX11_can_38 bX11_can_64 bX11_can_69
            simp only [c_nm]
            rw [mParts G rm6 ht, cl_s]
            by_cases n2 : 2 ≤ npB B t
            · have lb := hnp.2.2.2.1 n2
              rw [if_neg (fun z => by rw [nI_leI (by omega) (by omega)] at z; omega)]
              have e1 : eX11_partOf N (d + k + 34) w6 (nI t) (nI (0 + 1)) = some (w6, eN (bB B t)) := mPartOf1 (by decide) G rm6 ht
              rw [e1, cl_s, eN_n (by omega)]
              obtain ⟨w7, d1, d2, d3, d4, d5, d6⟩ := ih d (bB B t) w6 (by omega) (by omega) rm6 (rr.k fr6) (by rw [fr6.1 5 rfl]; exact h5) c3
              rw [d1, cl_s, nI_1]
              have fr7 : Fr noS caA w w7 := fr6.tr d2
              have rm7 : RM B w7 := rm.k fr7
              have last : ∀ y : Int32, (y = 0 ∧ cnu B R ex t = false ∨ y = 1 ∧ cnu B R ex t = true) → ∃ w2, fX11_can_38 N (d + k + 34) (eX11_can N (d + k + 34)) (N2 + 1) w7 (nI t) y (nI (0 + 1 + 1)) = some (w2, if cnu B R ex t = true then 1 else 0) ∧ Fr noS caA w w2 ∧ CI B R ex w2 ∧ aI w2 13 t ≠ 0 ∧ (∀ u, aI w 13 u ≠ 0 → aI w2 13 u ≠ 0) ∧ ∀ u, t < u → aI w2 14 u = aI w 14 u := by
                intro y hy
                rw [parts]
                unfold bX11_can_38
                rw [mParts G rm7 ht, cl_s, if_pos ((nI_leI (by omega) (by omega)).mpr (by omega))]
                exact fin w7 fr7 d3 (by rw [d6 t (by omega)]; exact b14) (fun _ => d5 _ c4) (fun _ => d4) (fun u hu => d5 u (bmon u hu)) (fun u hu => by rw [d6 u (by omega), b14k u hu]) y hy
              by_cases q : cnu B R ex (bB B t) = true
              · rw [if_pos q, if_neg i10]
                exact last 1 (Or.inr ⟨rfl, hcnu.mpr (Or.inr (Or.inr ⟨n2, q⟩))⟩)
              · rw [if_neg q, if_pos i00]
                rcases hy with ⟨y1, y2⟩ | ⟨y1, y2⟩
                · rw [if_pos y1]
                  refine last 0 (Or.inl ⟨rfl, hcf.mpr ?_⟩)
                  rintro (z | z | z)
                  · exact y2 (Or.inl z)
                  · exact y2 (Or.inr z.2)
                  · exact q z.2
                · rw [if_neg (by rw [y1]; decide)]
                  refine last 1 (Or.inr ⟨rfl, hcnu.mpr ?_⟩)
                  rcases y2 with z | z
                  · exact Or.inl z
                  · exact Or.inr (Or.inl ⟨n1, z⟩)
            · rw [if_pos ((nI_leI (by omega) (by omega)).mpr (by omega))]
              refine fin w6 fr6 c3 b14 (fun _ => c4) (fun z => absurd z n2) bmon b14k y ?_
              rcases hy with ⟨y1, y2⟩ | ⟨y1, y2⟩
              · refine Or.inl ⟨y1, hcf.mpr ?_⟩
                rintro (z | z | z)
                · exact y2 (Or.inl z)
                · exact y2 (Or.inr z.2)
                · exact n2 z.1
              · refine Or.inr ⟨y1, hcnu.mpr ?_⟩
                rcases y2 with z | z
                · exact Or.inl z
                · exact Or.inr (Or.inl ⟨n1, z⟩)
          by_cases q : cnu B R ex (aB B t) = true
          · rw [if_pos q, if_neg i10]
            exact next 1 (Or.inr ⟨rfl, Or.inr q⟩)
          · rw [if_neg q, if_pos i00]
            rcases hx with ⟨y1, y2⟩ | ⟨y1, y2⟩
            · rw [if_pos y1]
              exact next 0 (Or.inl ⟨rfl, fun z => z.elim (fun h => h y2) q⟩)
            · rw [if_neg (by rw [y1]; decide)]
              exact next 1 (Or.inr ⟨rfl, Or.inl y2⟩)
        · rw [if_pos ((nI_leI (by omega) (by omega)).mpr (by omega))]
          refine fin w5 fr5 ci5 a14 (fun z => absurd z n1) (fun z => by omega) (fun u hu => by rw [a13]; exact hu) k14 x2 ?_
          rcases hx with ⟨y1, y2⟩ | ⟨y1, y2⟩
          · refine Or.inl ⟨y1, hcf.mpr ?_⟩
            rintro (z | z | z)
            · exact z y2
            · exact n1 z.1
            · omega
          · exact Or.inr ⟨y1, hcnu.mpr (Or.inl y2)⟩
      have hin := RA_in B R ex t
      have gr1 := gr.1
      by_cases q : RA B R ex t = 2000
      · rw [if_pos (by rw [q]; rfl)]
        have := run 0 (Or.inl ⟨rfl, q⟩)
        rw [← hN2] at this
        exact this
      · rw [if_neg (eN_m1 (by omega))]
        have := run 1 (Or.inr ⟨rfl, q⟩)
        rw [← hN2] at this
        exact this
    · rw [if_neg e]
      rcases ci t ht with z | ⟨z1, z2, z3, z4⟩
      · exact absurd z e
      · refine ⟨w, h91 w z1, Fr.rf w, ci, e, fun u hu => hu, fun u _ => rfl⟩
theorem mReadyL {B : Bk} {R : Ru} (G : GB B) {N d ex t : Nat} : ∀ n j w, RM B w → j ≤ nB B → nB B < n + j → ∃ f n2, fX11_isReady_2 N d n w (nI t) (nI j) = bX11_isReady_2 N d (fX11_isReady_2 N d n2) (pA w 13 f) (nI t) (nI (nB B)) ∧ (∀ v, v < nB B → f v = if j ≤ v then 0 else aI w 13 v) := by
  have g1 := G.1
  intro n
  induction n with
  | zero => intro j w _ h1 h2; omega
  | succ n ih =>
    intro j w rm h1 h2
    have key : fX11_isReady_2 N d (n + 1) w (nI t) (nI j) = bX11_isReady_2 N d (fX11_isReady_2 N d n) w (nI t) (nI j) := rfl
    by_cases e : j = nB B
    · refine ⟨aI w 13, n, ?_, fun v hv => by rw [if_neg (by omega)]⟩
      rw [key, e, pA_eta]
    · obtain ⟨f, n2, f1, f2⟩ := ih (j + 1) (pA w 13 (upd (aI w 13) j 0)) rm (by omega) (by omega)
      refine ⟨f, n2, ?_, fun v hv => ?_⟩
      · rw [key]
        unfold bX11_isReady_2
        simp only [c_nm]
        rw [rm.2.1, if_neg (fun z => e (by rw [nI_leI (by omega) (by omega)] at z; omega)), st_n (by omega) (by omega), nI_1, f1, pA_pA]
        unfold bX11_isReady_2
        simp only [c_nm]
      · rw [f2 v hv]
        by_cases q : j + 1 ≤ v
        · rw [if_pos q, if_pos (by omega)]
        · rw [if_neg q, aI_pA, if_pos rfl]
          by_cases q2 : v = j
          · rw [q2, upd_s, if_pos (by omega)]
          · rw [upd_n q2, if_neg (by omega)]
theorem mReady {B : Bk} {R : Ru} (G : GB B) (gr : GR B R) {N d ex t : Nat} {w : Wd} (hN : 2000000 ≤ N) (hex : ex < 16 ∨ ex = 2000) (ht : t < nB B) (rm : RM B w) (rr : RRm R w) (h5 : sI w 5 = eN ex) :
    ∃ w2, eX11_isReady N (d + 1035) w (nI t) = some (w2, if cnu B R ex t = true then 1 else 0) ∧ Fr noS caA w w2 ∧ CI B R ex w2 ∧ aI w2 13 t ≠ 0 := by
  have g1 := G.1
  have key : eX11_isReady N (d + 1035) w (nI t) = fX11_isReady_2 N (d + 1034) N w (nI t) (nI 0) := rfl
  obtain ⟨f, n2, f1, f2⟩ := mReadyL (R := R) (ex := ex) (N := N) (d := d + 1034) (t := t) G N 0 w rm (by omega) (by omega)
  rw [key, f1]
  have rm2 : RM B (pA w 13 f) := rm
  obtain ⟨w2, c1, c2, c3, c4, c5⟩ := mCan G gr (N := N) (ex := ex) hN hex 1000 d t (pA w 13 f) (by omega) ht rm2 rr h5 (fun u hu => Or.inl (by rw [aI_pA, if_pos rfl, f2 u hu, if_pos (Nat.zero_le _)]))
  unfold bX11_isReady_2
  rw [rm2.2.1, if_pos ((nI_leI (by omega) (by omega)).mpr (Nat.le_refl _))]
  have c6 : eX11_can N (d + 1034) (pA w 13 f) (nI t) = _ := c1
  rw [c6, cl_s]
  refine ⟨w2, bo01 ?_, (((Fr.rf w).pa rfl).tr c2), c3, c4⟩
  split
  · exact Or.inr rfl
  · exact Or.inl rfl
