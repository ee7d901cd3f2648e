/-! the class's bank -/
def bkI (h a b : Int32) : Nat := ((((h * 31) + a) * 67 + b) &&& 255).toNatClampNeg
theorem bkI_eq (h a b : Int32) : ((((h * 31) + a) * 67 + b) &&& 255) = nI (bkI h a b) ∧ bkI h a b < 256 := by
  obtain ⟨j, hj, e⟩ := pk_andE (((h * 31) + a) * 67 + b) (m := 255) 8 (by decide)
  have e2 : bkI h a b = j := by unfold bkI; rw [e]; exact nI_clamp (by omega)
  exact ⟨by rw [e2]; exact e, by rw [e2]; exact hj⟩
def bkB (B : Bk) (t : Nat) : Nat := bkI (nI (hB B t)) (eN (aB B t)) (eN (bB B t))
/-- the newest term below m in a bucket, 1 greater; 0: none -/
def pvB (B : Bk) (k : Nat) : Nat → Nat
  | 0 => 0
  | m + 1 => if bkB B m = k then m + 1 else pvB B k m
theorem pvB_le (B : Bk) (k m : Nat) : pvB B k m ≤ m := by
  induction m with
  | zero => exact Nat.le_refl _
  | succ m ih => unfold pvB; split <;> omega
theorem pvB_0 {B : Bk} {k m : Nat} (h : pvB B k m = 0) : ∀ t, t < m → bkB B t ≠ k := by
  induction m with
  | zero => intro t ht; omega
  | succ m ih =>
    unfold pvB at h
    split at h
    · omega
    · rename_i q
      intro t ht
      by_cases e : t = m
      · rw [e]; exact q
      · exact ih h t (by omega)
theorem pvB_s {B : Bk} {k m q : Nat} (h : pvB B k m = q + 1) : q < m ∧ bkB B q = k ∧ ∀ t, q < t → t < m → bkB B t ≠ k := by
  induction m with
  | zero => cases h
  | succ m ih =>
    unfold pvB at h
    split at h
    · rename_i e
      have : q = m := by omega
      subst this
      exact ⟨by omega, e, fun t h1 h2 => by omega⟩
    · rename_i e
      obtain ⟨h1, h2, h3⟩ := ih h
      refine ⟨by omega, h2, fun t h4 h5 => ?_⟩
      by_cases e2 : t = m
      · rw [e2]; exact e
      · exact h3 t h4 (by omega)
/-- the class's world holds the bank -/
def RB (B : Bk) (w : Wd) : Prop :=
  sI w 0 = nI (sB B) ∧ sI w 1 = nI (nB B) ∧
  (∀ k, (k < sB B ∨ (10 ≤ k ∧ k < 18)) → aI w 12 k = nI (arB B k) ∧ aI w 13 k = nI (wtB B k)) ∧
  (∀ t, t < nB B → aI w 14 t = nI (hB B t) ∧ aI w 15 t = eN (aB B t) ∧ aI w 16 t = eN (bB B t) ∧ aL w 17 t = lN (szB B t) ∧ aL w 18 t = lN (wgB B t)) ∧
  (∀ t, t < nB B → ∃ M, M < 256 ∧ aI w 19 t = nI M ∧ ∀ v, v < 8 → M.testBit v = decide (0 < ctB B t v)) ∧
  (∀ k, k < 256 → aI w 20 k = nI (pvB B k (nB B))) ∧ (∀ t, t < nB B → aI w 21 t = nI (pvB B (bkB B t) t))
/-- what the bank's work leaves as it was -/
def FrB (w w2 : Wd) : Prop := (∀ k, k ≠ 1 → sI w2 k = sI w k) ∧ (∀ k, (k < 14 ∨ 22 < k) → aI w2 k = aI w k ∧ aL w2 k = aL w k) ∧ ∀ k, sL w2 k = sL w k
theorem FrB.rf (w : Wd) : FrB w w := ⟨fun _ _ => rfl, fun _ _ => ⟨rfl, rfl⟩, fun _ => rfl⟩
theorem FrB.tr {w w2 w3 : Wd} (h : FrB w w2) (h2 : FrB w2 w3) : FrB w w3 := ⟨fun k hk => (h2.1 k hk).trans (h.1 k hk), fun k hk => ⟨(h2.2.1 k hk).1.trans (h.2.1 k hk).1, (h2.2.1 k hk).2.trans (h.2.1 k hk).2⟩, fun k => (h2.2.2 k).trans (h.2.2 k)⟩
theorem GB.a_le {B : Bk} (G : GB B) {t : Nat} (ht : t < nB B) : aB B t ≤ 2000 ∧ bB B t ≤ 2000 ∧ hB B t < 18 := by
  have h5 := G.2.2.2.2.1 t ht
  have g1 := G.1
  have g2 := G.2.1
  refine ⟨?_, ?_, ?_⟩
  · have := h5.2.1; split at this <;> omega
  · have := h5.2.2; split at this <;> omega
  · rcases h5.1 with q | q <;> omega
theorem cFindL {B : Bk} {w : Wd} (G : GB B) (R : RB B w) {N d h a b k : Nat} (hh : h < 18) (ha : a ≤ 2000) (hb : b ≤ 2000) :
    ∀ (n m j : Nat), m ≤ nB B → m + j ≤ 1000 → m < n →
      (∀ t, t < m → bkB B t = k → hB B t = h → aB B t = a → bB B t = b → fX8_find_13 N d n w (nI h) (eN a) (eN b) (nI (pvB B k m) - 1) (nI j) = some (w, nI t)) ∧
      ((∀ t, t < m → bkB B t = k → ¬ (hB B t = h ∧ aB B t = a ∧ bB B t = b)) → fX8_find_13 N d n w (nI h) (eN a) (eN b) (nI (pvB B k m) - 1) (nI j) = some (w, -1)) := by
  intro n
  induction n with
  | zero => intro m j h1 h2 h3; omega
  | succ n ih =>
    intro m j hm hj hn
    have g1 := G.1
    have key : fX8_find_13 N d (n + 1) w (nI h) (eN a) (eN b) (nI (pvB B k m) - 1) (nI j) = bX8_find_13 N d (fX8_find_13 N d n) w (nI h) (eN a) (eN b) (nI (pvB B k m) - 1) (nI j) := rfl
    rw [key]
    unfold bX8_find_13 bX8_find_80
    cases hp : pvB B k m with
    | zero =>
      have hx : nI 0 - 1 < 0 := by decide
      refine ⟨fun t ht hk => absurd hk (pvB_0 hp t ht), fun _ => ?_⟩
      rw [if_pos hx]
      split <;> rfl
    | succ q =>
      obtain ⟨hq1, hq2, hq3⟩ := pvB_s hp
      have hr := R.2.2.2.1 q (by omega)
      have hal := G.a_le (t := q) (by omega)
      have hnj : ¬ (1000 : Int32) ≤ nI j := by
        rw [show (1000 : Int32) = nI 1000 from rfl, nI_leI (by omega) (by omega)]; omega
      rw [if_neg hnj, nI_pred, if_neg (nI_pos (by omega)), ld_n (by omega) (by omega), hr.1]
      have nx : bX8_find_63 N d (fX8_find_13 N d n) w (nI h) (eN a) (eN b) (nI q) (nI j) = fX8_find_13 N d n w (nI h) (eN a) (eN b) (nI (pvB B k q) - 1) (nI (j + 1)) := by
        unfold bX8_find_63 c_nm
        rw [ld_n (by omega) (by omega), R.2.2.2.2.2.2 q (by omega), hq2, nI_1]
      obtain ⟨i1, i2⟩ := ih q (j + 1) (by omega) (by omega) (by omega)
      by_cases e1 : hB B q = h
      · rw [if_pos (by rw [e1]), ld_n (by omega) (by omega), hr.2.1]
        by_cases e2 : aB B q = a
        · rw [if_pos (by rw [e2]), ld_n (by omega) (by omega), hr.2.2.1]
          by_cases e3 : bB B q = b
          · rw [if_pos (by rw [e3])]
            refine ⟨fun t ht hk f1 f2 f3 => ?_, fun hno => absurd ⟨e1, e2, e3⟩ (hno q hq1 hq2)⟩
            rw [G.2.2.2.2.2.1 t q (by omega) (by omega) (f1.trans e1.symm) (f2.trans e2.symm) (f3.trans e3.symm)]
          · rw [if_neg (fun z => e3 ((eN_eq hal.2.1 hb).mp z)), nx]
            refine ⟨fun t ht hk f1 f2 f3 => i1 t ?_ hk f1 f2 f3, fun hno => i2 (fun t ht => hno t (by omega))⟩
            rcases Nat.lt_trichotomy t q with c | c | c
            · exact c
            · exact absurd (c ▸ f3) e3
            · exact absurd hk (hq3 t c ht)
        · rw [if_neg (fun z => e2 ((eN_eq hal.1 ha).mp z)), nx]
          refine ⟨fun t ht hk f1 f2 f3 => i1 t ?_ hk f1 f2 f3, fun hno => i2 (fun t ht => hno t (by omega))⟩
          rcases Nat.lt_trichotomy t q with c | c | c
          · exact c
          · exact absurd (c ▸ f2) e2
          · exact absurd hk (hq3 t c ht)
      · rw [if_neg (fun z => e1 ((nI_eq (by omega) (by omega)).mp z)), nx]
        refine ⟨fun t ht hk f1 f2 f3 => i1 t ?_ hk f1 f2 f3, fun hno => i2 (fun t ht => hno t (by omega))⟩
        rcases Nat.lt_trichotomy t q with c | c | c
        · exact c
        · exact absurd (c ▸ f1) e1
        · exact absurd hk (hq3 t c ht)
theorem cFind {B : Bk} {w : Wd} (G : GB B) (R : RB B w) {N d h a b : Nat} (hN : 2000000 ≤ N) (hh : h < 18) (ha : a ≤ 2000) (hb : b ≤ 2000) :
    (∀ t, t < nB B → hB B t = h → aB B t = a → bB B t = b → eX8_find N (d + 1) w (nI (bkI (nI h) (eN a) (eN b))) (nI h) (eN a) (eN b) = some (w, nI t)) ∧
    (NewN B h a b → eX8_find N (d + 1) w (nI (bkI (nI h) (eN a) (eN b))) (nI h) (eN a) (eN b) = some (w, -1)) := by
  have g1 := G.1
  have key : eX8_find N (d + 1) w (nI (bkI (nI h) (eN a) (eN b))) (nI h) (eN a) (eN b) = fX8_find_13 N d N w (nI h) (eN a) (eN b) (nI (pvB B (bkI (nI h) (eN a) (eN b)) (nB B)) - 1) (nI 0) := by
    show bX8_find_0 N d w _ _ _ _ = _
    unfold bX8_find_0 c_nm
    rw [ld_n (bkI_eq _ _ _).2 (by omega), R.2.2.2.2.2.1 _ (bkI_eq _ _ _).2]
    rfl
  rw [key]
  obtain ⟨i1, i2⟩ := cFindL (N := N) (d := d) (k := bkI (nI h) (eN a) (eN b)) G R hh ha hb N (nB B) 0 (by omega) (by omega) (by omega)
  exact ⟨fun t ht f1 f2 f3 => i1 t ht (by unfold bkB; rw [f1, f2, f3]) f1 f2 f3, fun hno => i2 (fun t ht _ => hno t ht)⟩
