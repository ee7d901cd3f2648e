/-! the class values all terms up to one, by a sweep -/
theorem pB_pB (w : Wd) (k : Nat) (f g : Nat → Int64) : pB (pB w k f) k g = pB w k g := by
  unfold pB
  refine Prod.ext rfl (Prod.ext rfl (Prod.ext (funext fun j => ?_) rfl))
  show (if j = k then g else (if j = k then _ else _)) = (if j = k then g else _)
  split <;> rfl
theorem pB_eta (w : Wd) (k : Nat) : pB w k (aL w k) = w := by
  obtain ⟨a, b, c, e⟩ := w
  unfold pB aL
  refine congrArg (fun z => (a, b, z, e)) (funext fun j => ?_)
  show (if j = k then c k else c j) = c j
  split
  · rename_i q; rw [q]
  · rfl
theorem cellAt_n {N d h x y : Nat} {w : Wd} : eX7_cellAt N (d + 1) w (nI h) (nI x) (nI y) = some (w, nI (16 * h + 4 * x + y)) := by
  show some (w, (((nI h * 4) + nI x) * 4) + nI y) = _
  rw [show (4 : Int32) = nI 4 from rfl, pk_mul, nI_add, pk_mul, nI_add]
  congr 3
  omega
theorem cSweepL {B : Bk} (G : GB B) {N d T : Nat} {tab hv : Nat → Nat} (hT : T < nB B) (h1 : ∀ j, j < 160 → tab j ≤ 3) (h3 : ∀ v, v < 8 → hv v ≤ 3) : ∀ n t w, RB B w → (∀ j, j < 160 → aI w 35 j = nI (tab j)) → (∀ v, v < 8 → aI w 36 v = nI (hv v)) → t ≤ T + 1 → T + 1 < n + t → (∀ k, k < t → aL w 22 k = lN (vlu B tab hv k)) →
    ∃ f, fX7_valueOf_10 N (d + 1) n w (nI T) (nI t) = some (pB w 22 f, nI (vlu B tab hv T)) := by
  have g1 := G.1
  intro n
  induction n with
  | zero => intro t w R _ _ h h2; omega
  | succ n ih =>
    intro t w R h35 h36 ht hn hi
    have key : fX7_valueOf_10 N (d + 1) (n + 1) w (nI T) (nI t) = bX7_valueOf_10 N (d + 1) (fX7_valueOf_10 N (d + 1) n) w (nI T) (nI t) := rfl
    rw [key]
    unfold bX7_valueOf_10
    by_cases e : T < t
    · rw [if_pos ((nI_ltI (by omega) (by omega)).mpr e), ll_n (by omega) (by omega), hi T e, lN_i]
      exact ⟨aL w 22, by rw [pB_eta]⟩
    · rw [if_neg (fun z => e ((nI_ltI (by omega) (by omega)).mp z))]
      have htB : t < nB B := by omega
      have hal := G.a_le htB
      have hnp := G.np htB
      have hr := R.2.2.2.1 t htB
      have hve := vlu_eq G (tab := tab) (hv := hv) htB
      have fin : ∀ x, x = lN (vlu B tab hv t) → ∃ f, bX7_valueOf_119 N (d + 1) (fX7_valueOf_10 N (d + 1) n) w (nI T) (nI t) (nI t) x = some (pB w 22 f, nI (vlu B tab hv T)) := by
        intro x hx
        unfold bX7_valueOf_119
        simp only [c_nm]
        rw [sl_n (by omega) (by omega), nI_1, hx]
        obtain ⟨f, f1⟩ := ih (t + 1) (pB w 22 (vp_updL (aL w 22) t (lN (vlu B tab hv t)))) (R.k ((Fr.rf w).pb (S := fun _ => false) (A := fun k => k == 22) rfl)) h35 h36 (by omega) (by omega) (fun k hk => by
          rw [aL_pB, if_pos rfl]
          by_cases e : k = t
          · rw [e, updL_s]
          · rw [updL_n e]
            exact hi k (by omega))
        exact ⟨f, by rw [f1, pB_pB]⟩
      rw [ld_n (by omega) (by omega), hr.2.1, ld_n (by omega) (by omega), hr.2.2.1, cIsVar G R htB, cl_s]
      by_cases hb : hB B t < 10
      · rw [if_pos hb, if_pos i00, ld_n (by omega) (by omega), hr.1]
        have hix := (vlu_le G (tab := tab) (hv := hv) h1 (t + 1) t (by omega) htB (fun v hv _ => h3 v hv)).2 hb
        rw [if_pos hb] at hve
        have go2 : ∀ x y, x = (if 1 ≤ npB B t then vlu B tab hv (aB B t) else 0) → y = (if 2 ≤ npB B t then vlu B tab hv (bB B t) else 0) → ∃ f, bX7_valueOf_114 N (d + 1) (fX7_valueOf_10 N (d + 1) n) w (nI T) (nI t) (nI t) (nI (hB B t)) (nI x) (nI y) = some (pB w 22 f, nI (vlu B tab hv T)) := by
          intro x y hx hy
          unfold bX7_valueOf_114
          rw [← hx, ← hy] at hix hve
          have h3t := h1 _ hix
          rw [cellAt_n, cl_s, ld_n (by omega) (by omega), h35 _ (by omega), nI_l (by omega), ← hve]
          exact fin _ rfl
        have go1 : ∀ x, x = (if 1 ≤ npB B t then vlu B tab hv (aB B t) else 0) → ∃ f, bX7_valueOf_99 N (d + 1) (fX7_valueOf_10 N (d + 1) n) w (nI T) (nI t) (eN (bB B t)) (nI t) (nI (hB B t)) (nI x) = some (pB w 22 f, nI (vlu B tab hv T)) := by
          intro x hx
          unfold bX7_valueOf_99
          by_cases z : 2 ≤ npB B t
          · have hlt := hnp.2.2.2.1 z
            rw [if_neg (eN_m1 (by omega)), eN_n (by omega), ll_n (by omega) (by omega), hi _ hlt, lN_i]
            exact go2 x _ hx (by rw [if_pos z])
          · rw [if_pos (by rw [hnp.2.2.2.2.2 z]; rfl)]
            exact go2 x 0 hx (by rw [if_neg z])
        by_cases z : 1 ≤ npB B t
        · have hlt := hnp.2.2.1 z
          rw [if_neg (eN_m1 (by omega)), eN_n (by omega), ll_n (by omega) (by omega), hi _ hlt, lN_i]
          exact go1 _ (by rw [if_pos z])
        · rw [if_pos (by rw [hnp.2.2.2.2.1 z]; rfl)]
          exact go1 0 (by rw [if_neg z])
      · have h3v := h3 (hB B t - 10) (by omega)
        rw [if_neg hb, if_neg i10, ld_n (by omega) (by omega), hr.1, show (10 : Int32) = nI 10 from rfl, pk_sub (by omega), ld_n (by omega) (by omega), h36 _ (by omega), nI_l (by omega)]
        rw [if_neg hb] at hve
        exact fin _ (by rw [hve])
theorem cValueOf {B : Bk} (G : GB B) {N d T : Nat} {tab hv : Nat → Nat} {w : Wd} (hN : 2000000 ≤ N) (hT : T < nB B) (h1 : ∀ j, j < 160 → tab j ≤ 3) (h3 : ∀ v, v < 8 → hv v ≤ 3) (R : RB B w) (h35 : ∀ j, j < 160 → aI w 35 j = nI (tab j)) (h36 : ∀ v, v < 8 → aI w 36 v = nI (hv v)) :
    ∃ f, eX7_valueOf N (d + 2) w (nI T) = some (pB w 22 f, nI (vlu B tab hv T)) := by
  have g1 := G.1
  have key : eX7_valueOf N (d + 2) w (nI T) = fX7_valueOf_10 N (d + 1) N w (nI T) (nI 0) := rfl
  rw [key]
  exact cSweepL G hT h1 h3 N 0 w R h35 h36 (by omega) (by omega) (fun k hk => by omega)
