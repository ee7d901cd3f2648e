/-! the first rule that fits -/
def s0 : Nat → Nat := fun _ => 2000
def mt (B : Bk) (p t : Nat) : Option (Nat → Nat) := bd B 30 s0 p t
def okR (B : Bk) (R : Ru) (ex r t : Nat) : Bool := R.2.2.2 r && (!(decide (r = ex)) && (mt B (R.2.1 r) t).isSome)
def raL (ok : Nat → Bool) (n : Nat) : Nat → Nat
  | 0 => 2000
  | k + 1 => if ok (n - (k + 1)) then n - (k + 1) else raL ok n k
def RA (B : Bk) (R : Ru) (ex t : Nat) : Nat := raL (fun r => okR B R ex r t) R.1 R.1
theorem raL_in {ok : Nat → Bool} {n : Nat} : ∀ k, k ≤ n → raL ok n k = 2000 ∨ (raL ok n k < n ∧ ok (raL ok n k) = true) := by
  intro k
  induction k with
  | zero => intro _; exact Or.inl rfl
  | succ k ih =>
    intro hk
    unfold raL
    by_cases q : ok (n - (k + 1)) = true
    · rw [if_pos q]; exact Or.inr ⟨by omega, q⟩
    · rw [if_neg q]; exact ih (by omega)
theorem RA_in (B : Bk) (R : Ru) (ex t : Nat) : RA B R ex t = 2000 ∨ (RA B R ex t < R.1 ∧ okR B R ex (RA B R ex t) t = true) := raL_in R.1 (Nat.le_refl _)
theorem s0OK {B : Bk} : sOK B s0 := fun _ => Or.inr rfl
theorem mFitsL {B : Bk} {N d p t : Nat} : ∀ n j w, j ≤ 8 → 8 < n + j → ∃ f n2, fX11_fits_2 N d n w (nI p) (nI t) (nI j) = bX11_fits_2 N d (fX11_fits_2 N d n2) (pA w 12 f) (nI p) (nI t) 8 ∧ (∀ v, v < 8 → f v = if j ≤ v then -1 else aI w 12 v) := by
  intro n
  induction n with
  | zero => intro j w h1 h2; omega
  | succ n ih =>
    intro j w h1 h2
    have key : fX11_fits_2 N d (n + 1) w (nI p) (nI t) (nI j) = bX11_fits_2 N d (fX11_fits_2 N d n) w (nI p) (nI t) (nI j) := rfl
    by_cases e : j = 8
    · refine ⟨aI w 12, n, ?_, fun v hv => by rw [if_neg (by omega)]⟩
      rw [key, e, pA_eta]
      rfl
    · obtain ⟨f, n2, f1, f2⟩ := ih (j + 1) (pA w 12 (upd (aI w 12) j (-1))) (by omega) (by omega)
      refine ⟨f, n2, ?_, fun v hv => ?_⟩
      · rw [key]
        unfold bX11_fits_2
        simp only [c_nm]
        rw [if_neg (fun z => e (by rw [show (8 : Int32) = nI 8 from rfl, nI_leI (by omega) (by omega)] at z; omega)), st_n (by omega) (by omega), nI_1, f1, pA_pA]
        rfl
      · rw [f2 v hv]
        by_cases q : j + 1 ≤ v
        · rw [if_pos q, if_pos (by omega)]
        · rw [if_neg q, aI_pA, if_pos rfl]
          by_cases q2 : v = j
          · rw [q2, upd_s, if_pos (by omega)]
          · rw [upd_n q2, if_neg (by omega)]
theorem mFits {B : Bk} (G : GB B) {N d p t : Nat} {w : Wd} (hN : 2000000 ≤ N) (R : RM B w) (hp : p < nB B) (ht : t < nB B) (hs : szB B p ≤ 30) :
    ∃ f, (∀ σ, mt B p t = some σ → eX11_fits N (d + 33) w (nI p) (nI t) = some (pA w 12 f, 1) ∧ ∀ v, v < 8 → f v = eN (σ v)) ∧ (mt B p t = none → eX11_fits N (d + 33) w (nI p) (nI t) = some (pA w 12 f, 0)) := by
  have key : eX11_fits N (d + 33) w (nI p) (nI t) = fX11_fits_2 N (d + 32) N w (nI p) (nI t) (nI 0) := rfl
  obtain ⟨f, n2, f1, f2⟩ := mFitsL (B := B) (N := N) (d := d + 32) (p := p) (t := t) N 0 w (by omega) (by omega)
  rw [key, f1]
  have R2 : RM B (pA w 12 f) := R
  obtain ⟨g, g1, g2⟩ := mBinds G hN 30 d s0 p t (pA w 12 f) R2 hp ht hs (by omega) (fun v hv => by
    rw [aI_pA, if_pos rfl, f2 v hv, if_pos (Nat.zero_le _)]
    rfl) s0OK
  unfold bX11_fits_2
  rw [if_pos (show (8 : Int32) ≤ 8 by decide)]
  rw [pA_pA] at g1 g2
  refine ⟨g, fun σ h => ?_, fun h => ?_⟩
  · obtain ⟨g3, g4⟩ := g1 σ h
    have g5 : eX11_binds N (d + 32) (pA w 12 f) (nI p) (nI t) = _ := g3
    rw [g5, cl_s]
    exact ⟨bo01 (Or.inr rfl), g4⟩
  · have g5 : eX11_binds N (d + 32) (pA w 12 f) (nI p) (nI t) = _ := g2 h
    rw [g5, cl_s]
    exact bo01 (Or.inl rfl)
theorem cRuleForL {B : Bk} {R : Ru} (G : GB B) (gr : GR B R) {N d t ex : Nat} (hN : 2000000 ≤ N) (ht : t < nB B) (hex : ex < 16 ∨ ex = 2000) : ∀ n k w, RB B w → RRc R w → sI w 5 = eN ex → k ≤ R.1 → k < n →
    ∃ f, fX3_ruleFor_2 N (d + 31) n w (nI t) (nI (R.1 - k)) = some (pA w 29 f, eN (raL (fun r => okR B R ex r t) R.1 k)) ∧ (∀ σ, mt B (R.2.1 (raL (fun r => okR B R ex r t) R.1 k)) t = some σ → raL (fun r => okR B R ex r t) R.1 k < 2000 → ∀ v, v < 4 → f v = eN (σ v)) := by
  have g1 := G.1
  have r1 := gr.1
  intro n
  induction n with
  | zero => intro k w _ _ _ h1 h2; omega
  | succ n ih =>
    intro k w rb rc h5 h1 h2
    have key : fX3_ruleFor_2 N (d + 31) (n + 1) w (nI t) (nI (R.1 - k)) = bX3_ruleFor_2 N (d + 31) (fX3_ruleFor_2 N (d + 31) n) w (nI t) (nI (R.1 - k)) := rfl
    rw [key]
    unfold bX3_ruleFor_2 bX3_ruleFor_84
    simp only [c_nm]
    rw [rc.1]
    cases k with
    | zero =>
      rw [if_pos (by rw [nI_leI (by omega) (by omega)]; omega)]
      exact ⟨aI w 29, by rw [pA_eta]; rfl, fun σ _ h => absurd (show 2000 < 2000 from h) (by omega)⟩
    | succ k =>
      rw [if_neg (fun z => by rw [nI_leI (by omega) (by omega)] at z; omega)]
      have hr : R.1 - (k + 1) < R.1 := by omega
      have hnx : nI (R.1 - (k + 1)) + 1 = nI (R.1 - k) := by rw [nI_1]; congr 1; omega
      obtain ⟨a1, a2, a3, a4, a5, a6, a7⟩ := gr.2 _ hr
      have rcr := rc.2 _ hr
      rw [hnx, ld_n (by omega) (by omega), rcr.1, ld_n (by omega) (by omega), rcr.2.2]
      generalize hq : R.1 - (k + 1) = r at *
      have hra : raL (fun r => okR B R ex r t) R.1 (k + 1) = if okR B R ex r t = true then r else raL (fun r => okR B R ex r t) R.1 k := by
        show (if okR B R ex (R.1 - (k + 1)) t = true then R.1 - (k + 1) else _) = _
        rw [hq]
      have skip : ∀ w1, RB B w1 → RRc R w1 → sI w1 5 = eN ex → okR B R ex r t = false → (∀ f, pA w1 29 f = pA w 29 f) → ∃ f, fX3_ruleFor_2 N (d + 31) n w1 (nI t) (nI (R.1 - k)) = some (pA w 29 f, eN (raL (fun r => okR B R ex r t) R.1 (k + 1))) ∧ (∀ σ, mt B (R.2.1 (raL (fun r => okR B R ex r t) R.1 (k + 1))) t = some σ → raL (fun r => okR B R ex r t) R.1 (k + 1) < 2000 → ∀ v, v < 4 → f v = eN (σ v)) := by
        intro w1 b1 b2 b3 b4 b5
        rw [hra, b4, if_neg (by decide)]
        obtain ⟨f, f1, f2⟩ := ih k w1 b1 b2 b3 (by omega) (by omega)
        exact ⟨f, by rw [f1, b5], f2⟩
      cases hon : R.2.2.2 r with
      | false =>
        rw [if_pos (show b2 false = 0 from rfl)]
        exact skip w rb rc h5 (by unfold okR; rw [hon]; rfl) (fun _ => rfl)
      | true =>
        rw [if_neg (show ¬ b2 true = 0 by decide), h5]
        have hexe : nI r = eN ex ↔ r = ex := by
          rw [← eN_n (show r < 2000 by omega), eN_eq (by omega) (by omega)]
        by_cases q : r = ex
        · rw [if_pos (hexe.mpr q)]
          exact skip w rb rc h5 (by unfold okR; rw [q]; simp) (fun _ => rfl)
        · rw [if_neg (fun z => q (hexe.mp z)), ld_n (by omega) (by omega), (rb.2.2.2.1 _ a1).1, ld_n (by omega) (by omega), (rb.2.2.2.1 _ ht).1]
          have okm : okR B R ex r t = (mt B (R.2.1 r) t).isSome := by
            unfold okR
            rw [hon, decide_eq_false q]
            rfl
          by_cases q2 : hB B (R.2.1 r) = hB B t
          · rw [if_pos (by rw [q2]), fill29 hN, cv_s]
            have rb2 : RB B (pA w 29 (fil (aI w 29) 0 4 (-1))) := rb
            obtain ⟨f, f1, f2⟩ := cFits G (N := N) 30 d s0 (R.2.1 r) t 1 _ rb2 a1 ht a4 (by omega) (by omega) a6 (fun v hv => by rw [aI_pA, if_pos rfl, fil_in (by omega) hv]; rfl) s0OK
            rw [pA_pA] at f1 f2
            cases hm : mt B (R.2.1 r) t with
            | none =>
              have f3 : eX3_fits N (d + 31) (pA w 29 (fil (aI w 29) 0 4 (-1))) (nI (R.2.1 r)) (nI t) 1 = _ := f2 hm
              rw [f3, cl_s, if_pos i00]
              exact skip (pA w 29 f) rb rc h5 (by rw [okm, hm]; rfl) (fun g => pA_pA w 29 f g)
            | some σ =>
              obtain ⟨f3, f4⟩ := f1 σ hm
              have f5 : eX3_fits N (d + 31) (pA w 29 (fil (aI w 29) 0 4 (-1))) (nI (R.2.1 r)) (nI t) 1 = _ := f3
              rw [f5, cl_s, if_neg i10, hra, okm, hm, if_pos (show (some σ).isSome = true from rfl)]
              refine ⟨f, by rw [eN_n (by omega)], fun σ2 h2 _ => ?_⟩
              rw [hm] at h2
              cases h2
              exact f4
          · rw [if_neg (fun z => by
              have l1 := G.a_le a1
              have l2 := G.a_le ht
              exact q2 ((nI_eq (by omega) (by omega)).mp z))]
            refine skip w rb rc h5 ?_ (fun _ => rfl)
            have : mt B (R.2.1 r) t = none := by
              unfold mt
              show bd B (29 + 1) s0 _ _ = none
              unfold bd
              rw [if_pos a3, if_neg q2]
            rw [okm, this]
            rfl
theorem cRuleFor {B : Bk} {R : Ru} (G : GB B) (gr : GR B R) {N d t ex : Nat} {w : Wd} (hN : 2000000 ≤ N) (ht : t < nB B) (hex : ex < 16 ∨ ex = 2000) (rb : RB B w) (rc : RRc R w) (h5 : sI w 5 = eN ex) :
    ∃ f, eX3_ruleFor N (d + 32) w (nI t) = some (pA w 29 f, eN (RA B R ex t)) ∧ (∀ σ, mt B (R.2.1 (RA B R ex t)) t = some σ → RA B R ex t < 2000 → ∀ v, v < 4 → f v = eN (σ v)) := by
  have r1 := gr.1
  have := cRuleForL G gr (N := N) (d := d) hN ht hex N R.1 w rb rc h5 (Nat.le_refl _) (by omega)
  rw [Nat.sub_self] at this
  exact this
theorem mRuleAtL {B : Bk} {R : Ru} (G : GB B) (gr : GR B R) {N d t ex : Nat} (hN : 2000000 ≤ N) (ht : t < nB B) (hex : ex < 16 ∨ ex = 2000) : ∀ n k w, RM B w → RRm R w → sI w 5 = eN ex → k ≤ R.1 → k < n →
    ∃ f, fX11_ruleAt_2 N (d + 33) n w (nI t) (nI (R.1 - k)) = some (pA w 12 f, eN (raL (fun r => okR B R ex r t) R.1 k)) := by
  have g1 := G.1
  have r1 := gr.1
  intro n
  induction n with
  | zero => intro k w _ _ _ h1 h2; omega
  | succ n ih =>
    intro k w rb rc h5 h1 h2
    have key : fX11_ruleAt_2 N (d + 33) (n + 1) w (nI t) (nI (R.1 - k)) = bX11_ruleAt_2 N (d + 33) (fX11_ruleAt_2 N (d + 33) n) w (nI t) (nI (R.1 - k)) := rfl
    rw [key]
    unfold bX11_ruleAt_2 bX11_ruleAt_43
    simp only [c_nm]
    rw [rc.1]
    cases k with
    | zero =>
      rw [if_pos (by rw [nI_leI (by omega) (by omega)]; omega)]
      exact ⟨aI w 12, by rw [pA_eta]; rfl⟩
    | succ k =>
      rw [if_neg (fun z => by rw [nI_leI (by omega) (by omega)] at z; omega)]
      have hr : R.1 - (k + 1) < R.1 := by omega
      have hnx : nI (R.1 - (k + 1)) + 1 = nI (R.1 - k) := by rw [nI_1]; congr 1; omega
      obtain ⟨a1, a2, a3, a4, a5, a6, a7⟩ := gr.2 _ hr
      have rcr := rc.2 _ hr
      rw [hnx, ld_n (by omega) (by omega), rcr.2.2, ld_n (by omega) (by omega), rcr.1]
      generalize hq : R.1 - (k + 1) = r at *
      have hra : raL (fun r => okR B R ex r t) R.1 (k + 1) = if okR B R ex r t = true then r else raL (fun r => okR B R ex r t) R.1 k := by
        show (if okR B R ex (R.1 - (k + 1)) t = true then R.1 - (k + 1) else _) = _
        rw [hq]
      have skip : ∀ w1, RM B w1 → RRm R w1 → sI w1 5 = eN ex → okR B R ex r t = false → (∀ f, pA w1 12 f = pA w 12 f) → ∃ f, fX11_ruleAt_2 N (d + 33) n w1 (nI t) (nI (R.1 - k)) = some (pA w 12 f, eN (raL (fun r => okR B R ex r t) R.1 (k + 1))) := by
        intro w1 b1 b2 b3 b4 b5
        rw [hra, b4, if_neg (by decide)]
        obtain ⟨f, f1⟩ := ih k w1 b1 b2 b3 (by omega) (by omega)
        exact ⟨f, by rw [f1, b5]⟩
      cases hon : R.2.2.2 r with
      | false =>
        rw [if_pos (show b2 false = 0 from rfl)]
        exact skip w rb rc h5 (by unfold okR; rw [hon]; rfl) (fun _ => rfl)
      | true =>
        rw [if_neg (show ¬ b2 true = 0 by decide), h5]
        have hexe : nI r = eN ex ↔ r = ex := by
          rw [← eN_n (show r < 2000 by omega), eN_eq (by omega) (by omega)]
        by_cases q : r = ex
        · rw [if_pos (hexe.mpr q)]
          exact skip w rb rc h5 (by unfold okR; rw [q]; simp) (fun _ => rfl)
        · rw [if_neg (fun z => q (hexe.mp z))]
          have okm : okR B R ex r t = (mt B (R.2.1 r) t).isSome := by
            unfold okR
            rw [hon, decide_eq_false q]
            rfl
          obtain ⟨f, f1, f2⟩ := mFits G (N := N) (d := d) hN rb a1 ht a4
          cases hm : mt B (R.2.1 r) t with
          | none =>
            rw [f2 hm, cl_s, if_pos i00]
            exact skip (pA w 12 f) rb rc h5 (by rw [okm, hm]; rfl) (fun g => pA_pA w 12 f g)
          | some σ =>
            rw [(f1 σ hm).1, cl_s, if_neg i10, hra, okm, hm, if_pos (show (some σ).isSome = true from rfl)]
            exact ⟨f, by rw [eN_n (by omega)]⟩
theorem mRuleAt {B : Bk} {R : Ru} (G : GB B) (gr : GR B R) {N d t ex : Nat} {w : Wd} (hN : 2000000 ≤ N) (ht : t < nB B) (hex : ex < 16 ∨ ex = 2000) (rb : RM B w) (rc : RRm R w) (h5 : sI w 5 = eN ex) :
    ∃ f, eX11_ruleAt N (d + 34) w (nI t) = some (pA w 12 f, eN (RA B R ex t)) := by
  have r1 := gr.1
  have := mRuleAtL G gr (N := N) (d := d) hN ht hex N R.1 w rb rc h5 (Nat.le_refl _) (by omega)
  rw [Nat.sub_self] at this
  exact this
