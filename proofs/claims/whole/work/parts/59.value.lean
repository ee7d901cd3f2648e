theorem cValL36 {B : Bk} (G : GB B) {N d m : Nat} {tab hv nd : Nat → Nat} (h1 : ∀ j, j < 160 → tab j ≤ 3) (h3 : ∀ v, v < 8 → hv v ≤ 3) : ∀ n q w, RB B w → Gt B w m nd → (∀ j, j < 160 → aI w 35 j = nI (tab j)) → (∀ v, v < 8 → aI w 36 v = nI (hv v)) → q < n → q ≤ m → (∀ k, q ≤ k → k < m → aI w 40 (nd k) = nI (vlu B tab hv (nd k))) →
    ∃ f, fX7_valueNeeded_r36_7 N (d + 1) n w (nI q - 1) = some (pA w 40 f) ∧ ∀ k, k < m → f (nd k) = nI (vlu B tab hv (nd k)) := by
  have g1 := G.1
  intro n
  induction n with
  | zero => intro q w R _ _ _ h; omega
  | succ n ih =>
    intro q w R gt h35 h36 hq hm hi
    have key : fX7_valueNeeded_r36_7 N (d + 1) (n + 1) w (nI q - 1) = bX7_valueNeeded_r36_7 N (d + 1) (fX7_valueNeeded_r36_7 N (d + 1) n) w (nI q - 1) := rfl
    rw [key]
    cases q with
    | zero =>
      unfold bX7_valueNeeded_r36_7
      rw [if_pos (by decide)]
      exact ⟨aI w 40, by rw [pA_eta], fun k hk => hi k (Nat.zero_le _) hk⟩
    | succ p =>
      obtain ⟨q1, q2, q3, q4, q5⟩ := id gt
      have hp := q3 p (by omega)
      have hal := G.a_le hp.1
      have hnp := G.np hp.1
      have hr := R.2.2.2.1 _ hp.1
      have em : nI p + (-1) = nI p - 1 := by rw [Int32.sub_eq_add_neg]
      have pos : ∀ i, i < m → nd i < nd p → p < i := fun i h1 h2 => by
        apply Decidable.byContradiction
        intro z
        by_cases e : i = p
        · rw [e] at h2; omega
        · have := q4 i p (by omega) (by omega); omega
      have fin : ∀ x, x = nI (vlu B tab hv (nd p)) → ∃ f, bX7_valueNeeded_r36_124 N (d + 1) (fX7_valueNeeded_r36_7 N (d + 1) n) w (nI p) (nI (nd p)) x = some (pA w 40 f) ∧ ∀ k, k < m → f (nd k) = nI (vlu B tab hv (nd k)) := by
        intro x hx
        unfold bX7_valueNeeded_r36_124
        simp only [c_nm]
        rw [st_n (by omega) (by omega), em, hx]
        obtain ⟨f, f1, f2⟩ := ih p (pA w 40 (upd (aI w 40) (nd p) (nI (vlu B tab hv (nd p))))) R gt h35 h36 (by omega) (by omega) (fun k h4 h5 => by
          show upd (aI w 40) (nd p) (nI (vlu B tab hv (nd p))) (nd k) = _
          by_cases e : k = p
          · rw [e, upd_s]
          · have := q4 p k (by omega) h5
            rw [upd_n (by omega)]
            exact hi k (by omega) h5)
        exact ⟨f, by rw [f1, pA_pA], f2⟩
      have hve := vlu_eq G (tab := tab) (hv := hv) hp.1
      unfold bX7_valueNeeded_r36_7
      rw [nI_pred, if_neg (nI_pos (by omega)), ld_n (by omega) (by omega), hp.2, ld_n (by omega) (by omega), hr.2.1, ld_n (by omega) (by omega), hr.2.2.1, cIsVar G R hp.1, cl_s]
      by_cases hb : hB B (nd p) < 10
      · rw [if_pos hb, if_pos i00, ld_n (by omega) (by omega), hr.1]
        have hix := (vlu_le G (tab := tab) (hv := hv) h1 (nd p + 1) (nd p) (by omega) hp.1 (fun v hv _ => h3 v hv)).2 hb
        rw [if_pos hb] at hve
        have go2 : ∀ x y, x = (if 1 ≤ npB B (nd p) then vlu B tab hv (aB B (nd p)) else 0) → y = (if 2 ≤ npB B (nd p) then vlu B tab hv (bB B (nd p)) else 0) → ∃ f, bX7_valueNeeded_r36_120 N (d + 1) (fX7_valueNeeded_r36_7 N (d + 1) n) w (nI p) (nI (nd p)) (nI (hB B (nd p))) (nI x) (nI y) = some (pA w 40 f) ∧ ∀ k, k < m → f (nd k) = nI (vlu B tab hv (nd k)) := by
          intro x y hx hy
          unfold bX7_valueNeeded_r36_120
          rw [← hx, ← hy] at hix hve
          have e : eX7_cellAt N (d + 1) w (nI (hB B (nd p))) (nI x) (nI y) = some (w, nI (16 * hB B (nd p) + 4 * x + y)) := by
            show some (w, (((nI (hB B (nd p)) * 4) + nI x) * 4) + nI y) = _
            rw [show (4 : Int32) = nI 4 from rfl, pk_mul, nI_add, pk_mul, nI_add]
            congr 3
            omega
          rw [e, cl_s, ld_n (by omega) (by omega), h35 _ (by omega), ← hve]
          exact fin _ rfl
        have go1 : ∀ x, x = (if 1 ≤ npB B (nd p) then vlu B tab hv (aB B (nd p)) else 0) → ∃ f, bX7_valueNeeded_r36_103 N (d + 1) (fX7_valueNeeded_r36_7 N (d + 1) n) w (nI p) (eN (bB B (nd p))) (nI (nd p)) (nI (hB B (nd p))) (nI x) = some (pA w 40 f) ∧ ∀ k, k < m → f (nd k) = nI (vlu B tab hv (nd k)) := by
          intro x hx
          unfold bX7_valueNeeded_r36_103
          by_cases z : 2 ≤ npB B (nd p)
          · have hlt := hnp.2.2.2.1 z
            obtain ⟨i, i1, i2⟩ := (q5 p (by omega)).2 z
            have := pos i i1 (by omega)
            rw [if_neg (eN_m1 (by omega)), eN_n (by omega), ld_n (by omega) (by omega), ← i2, hi i (by omega) i1]
            exact go2 x _ hx (by rw [if_pos z, i2])
          · rw [if_pos (by rw [hnp.2.2.2.2.2 z]; rfl)]
            exact go2 x 0 hx (by rw [if_neg z])
        by_cases z : 1 ≤ npB B (nd p)
        · have hlt := hnp.2.2.1 z
          obtain ⟨i, i1, i2⟩ := (q5 p (by omega)).1 z
          have := pos i i1 (by omega)
          rw [if_neg (eN_m1 (by omega)), eN_n (by omega), ld_n (by omega) (by omega), ← i2, hi i (by omega) i1]
          exact go1 _ (by rw [if_pos z, i2])
        · rw [if_pos (by rw [hnp.2.2.2.2.1 z]; rfl)]
          exact go1 0 (by rw [if_neg z])
      · rw [if_neg hb, if_neg i10, ld_n (by omega) (by omega), hr.1, show (10 : Int32) = nI 10 from rfl, pk_sub (by omega), ld_n (by omega) (by omega), h36 _ (by omega)]
        rw [if_neg hb] at hve
        exact fin _ (by rw [hve])
theorem cVal36 {B : Bk} (G : GB B) {N d m : Nat} {tab hv nd : Nat → Nat} {w : Wd} (hN : 2000000 ≤ N) (h1 : ∀ j, j < 160 → tab j ≤ 3) (h3 : ∀ v, v < 8 → hv v ≤ 3) (R : RB B w) (gt : Gt B w m nd) (h35 : ∀ j, j < 160 → aI w 35 j = nI (tab j)) (h36 : ∀ v, v < 8 → aI w 36 v = nI (hv v)) :
    ∃ f, eX7_valueNeeded_r36 N (d + 2) w = some (pA w 40 f) ∧ ∀ k, k < m → f (nd k) = nI (vlu B tab hv (nd k)) := by
  have key : eX7_valueNeeded_r36 N (d + 2) w = fX7_valueNeeded_r36_7 N (d + 1) N w (sI w 12 - 1) := rfl
  have := gt.2.1
  rw [key, gt.1]
  exact cValL36 G h1 h3 N m w R gt h35 h36 (by omega) (Nat.le_refl _) (fun k h4 h5 => by omega)
theorem cValL37 {B : Bk} (G : GB B) {N d m : Nat} {tab hv nd : Nat → Nat} (h1 : ∀ j, j < 160 → tab j ≤ 3) (h3 : ∀ v, v < 8 → hv v ≤ 3) : ∀ n q w, RB B w → Gt B w m nd → (∀ j, j < 160 → aI w 35 j = nI (tab j)) → (∀ v, v < 8 → aI w 37 v = nI (hv v)) → q < n → q ≤ m → (∀ k, q ≤ k → k < m → aI w 40 (nd k) = nI (vlu B tab hv (nd k))) →
    ∃ f, fX7_valueNeeded_r37_7 N (d + 1) n w (nI q - 1) = some (pA w 40 f) ∧ ∀ k, k < m → f (nd k) = nI (vlu B tab hv (nd k)) := by
  have g1 := G.1
  intro n
  induction n with
  | zero => intro q w R _ _ _ h; omega
  | succ n ih =>
    intro q w R gt h35 h36 hq hm hi
    have key : fX7_valueNeeded_r37_7 N (d + 1) (n + 1) w (nI q - 1) = bX7_valueNeeded_r37_7 N (d + 1) (fX7_valueNeeded_r37_7 N (d + 1) n) w (nI q - 1) := rfl
    rw [key]
    cases q with
    | zero =>
      unfold bX7_valueNeeded_r37_7
      rw [if_pos (by decide)]
      exact ⟨aI w 40, by rw [pA_eta], fun k hk => hi k (Nat.zero_le _) hk⟩
    | succ p =>
      obtain ⟨q1, q2, q3, q4, q5⟩ := id gt
      have hp := q3 p (by omega)
      have hal := G.a_le hp.1
      have hnp := G.np hp.1
      have hr := R.2.2.2.1 _ hp.1
      have em : nI p + (-1) = nI p - 1 := by rw [Int32.sub_eq_add_neg]
      have pos : ∀ i, i < m → nd i < nd p → p < i := fun i h1 h2 => by
        apply Decidable.byContradiction
        intro z
        by_cases e : i = p
        · rw [e] at h2; omega
        · have := q4 i p (by omega) (by omega); omega
      have fin : ∀ x, x = nI (vlu B tab hv (nd p)) → ∃ f, bX7_valueNeeded_r37_124 N (d + 1) (fX7_valueNeeded_r37_7 N (d + 1) n) w (nI p) (nI (nd p)) x = some (pA w 40 f) ∧ ∀ k, k < m → f (nd k) = nI (vlu B tab hv (nd k)) := by
        intro x hx
        unfold bX7_valueNeeded_r37_124
        simp only [c_nm]
        rw [st_n (by omega) (by omega), em, hx]
        obtain ⟨f, f1, f2⟩ := ih p (pA w 40 (upd (aI w 40) (nd p) (nI (vlu B tab hv (nd p))))) R gt h35 h36 (by omega) (by omega) (fun k h4 h5 => by
          show upd (aI w 40) (nd p) (nI (vlu B tab hv (nd p))) (nd k) = _
          by_cases e : k = p
          · rw [e, upd_s]
          · have := q4 p k (by omega) h5
            rw [upd_n (by omega)]
            exact hi k (by omega) h5)
        exact ⟨f, by rw [f1, pA_pA], f2⟩
      have hve := vlu_eq G (tab := tab) (hv := hv) hp.1
      unfold bX7_valueNeeded_r37_7
      rw [nI_pred, if_neg (nI_pos (by omega)), ld_n (by omega) (by omega), hp.2, ld_n (by omega) (by omega), hr.2.1, ld_n (by omega) (by omega), hr.2.2.1, cIsVar G R hp.1, cl_s]
      by_cases hb : hB B (nd p) < 10
      · rw [if_pos hb, if_pos i00, ld_n (by omega) (by omega), hr.1]
        have hix := (vlu_le G (tab := tab) (hv := hv) h1 (nd p + 1) (nd p) (by omega) hp.1 (fun v hv _ => h3 v hv)).2 hb
        rw [if_pos hb] at hve
        have go2 : ∀ x y, x = (if 1 ≤ npB B (nd p) then vlu B tab hv (aB B (nd p)) else 0) → y = (if 2 ≤ npB B (nd p) then vlu B tab hv (bB B (nd p)) else 0) → ∃ f, bX7_valueNeeded_r37_120 N (d + 1) (fX7_valueNeeded_r37_7 N (d + 1) n) w (nI p) (nI (nd p)) (nI (hB B (nd p))) (nI x) (nI y) = some (pA w 40 f) ∧ ∀ k, k < m → f (nd k) = nI (vlu B tab hv (nd k)) := by
          intro x y hx hy
          unfold bX7_valueNeeded_r37_120
          rw [← hx, ← hy] at hix hve
          have e : eX7_cellAt N (d + 1) w (nI (hB B (nd p))) (nI x) (nI y) = some (w, nI (16 * hB B (nd p) + 4 * x + y)) := by
            show some (w, (((nI (hB B (nd p)) * 4) + nI x) * 4) + nI y) = _
            rw [show (4 : Int32) = nI 4 from rfl, pk_mul, nI_add, pk_mul, nI_add]
            congr 3
            omega
          rw [e, cl_s, ld_n (by omega) (by omega), h35 _ (by omega), ← hve]
          exact fin _ rfl
        have go1 : ∀ x, x = (if 1 ≤ npB B (nd p) then vlu B tab hv (aB B (nd p)) else 0) → ∃ f, bX7_valueNeeded_r37_103 N (d + 1) (fX7_valueNeeded_r37_7 N (d + 1) n) w (nI p) (eN (bB B (nd p))) (nI (nd p)) (nI (hB B (nd p))) (nI x) = some (pA w 40 f) ∧ ∀ k, k < m → f (nd k) = nI (vlu B tab hv (nd k)) := by
          intro x hx
          unfold bX7_valueNeeded_r37_103
          by_cases z : 2 ≤ npB B (nd p)
          · have hlt := hnp.2.2.2.1 z
            obtain ⟨i, i1, i2⟩ := (q5 p (by omega)).2 z
            have := pos i i1 (by omega)
            rw [if_neg (eN_m1 (by omega)), eN_n (by omega), ld_n (by omega) (by omega), ← i2, hi i (by omega) i1]
            exact go2 x _ hx (by rw [if_pos z, i2])
          · rw [if_pos (by rw [hnp.2.2.2.2.2 z]; rfl)]
            exact go2 x 0 hx (by rw [if_neg z])
        by_cases z : 1 ≤ npB B (nd p)
        · have hlt := hnp.2.2.1 z
          obtain ⟨i, i1, i2⟩ := (q5 p (by omega)).1 z
          have := pos i i1 (by omega)
          rw [if_neg (eN_m1 (by omega)), eN_n (by omega), ld_n (by omega) (by omega), ← i2, hi i (by omega) i1]
          exact go1 _ (by rw [if_pos z, i2])
        · rw [if_pos (by rw [hnp.2.2.2.2.1 z]; rfl)]
          exact go1 0 (by rw [if_neg z])
      · rw [if_neg hb, if_neg i10, ld_n (by omega) (by omega), hr.1, show (10 : Int32) = nI 10 from rfl, pk_sub (by omega), ld_n (by omega) (by omega), h36 _ (by omega)]
        rw [if_neg hb] at hve
        exact fin _ (by rw [hve])
theorem cVal37 {B : Bk} (G : GB B) {N d m : Nat} {tab hv nd : Nat → Nat} {w : Wd} (hN : 2000000 ≤ N) (h1 : ∀ j, j < 160 → tab j ≤ 3) (h3 : ∀ v, v < 8 → hv v ≤ 3) (R : RB B w) (gt : Gt B w m nd) (h35 : ∀ j, j < 160 → aI w 35 j = nI (tab j)) (h36 : ∀ v, v < 8 → aI w 37 v = nI (hv v)) :
    ∃ f, eX7_valueNeeded_r37 N (d + 2) w = some (pA w 40 f) ∧ ∀ k, k < m → f (nd k) = nI (vlu B tab hv (nd k)) := by
  have key : eX7_valueNeeded_r37 N (d + 2) w = fX7_valueNeeded_r37_7 N (d + 1) N w (sI w 12 - 1) := rfl
  have := gt.2.1
  rw [key, gt.1]
  exact cValL37 G h1 h3 N m w R gt h35 h36 (by omega) (Nat.le_refl _) (fun k h4 h5 => by omega)
