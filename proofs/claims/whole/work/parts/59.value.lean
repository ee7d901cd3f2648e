/-! the class values a rule's term by a walk, which changes nothing -/
theorem cTried {B : Bk} (G : GB B) {N : Nat} {tab hv : Nat → Nat} {w : Wd} (R : RB B w) (h1 : ∀ j, j < 160 → tab j ≤ 3) (h3 : ∀ v, v < 8 → hv v ≤ 3) (h35 : ∀ j, j < 160 → aI w 35 j = nI (tab j)) (h37 : ∀ v, v < 8 → aI w 37 v = nI (hv v)) :
    ∀ k d t lv, t < nB B → szB B t ≤ k → szB B t + lv ≤ 31 → eX7_triedValueOf N (d + k + 2) w (nI t) (nI lv) = some (w, nI (vlu B tab hv t)) := by
  have g1 := G.1
  intro k
  induction k with
  | zero => intro d t lv ht h; have := (G.sz_le ht).2.1; omega
  | succ k ih =>
    intro d t lv ht hk hl
    have key : eX7_triedValueOf N (d + (k + 1) + 2) w (nI t) (nI lv) = bX7_triedValueOf_0 N (d + k + 2) (eX7_triedValueOf N (d + k + 2)) w (nI t) (nI lv) := rfl
    rw [key]
    have hs1 := (G.sz_le ht).2.1
    have hal := G.a_le ht
    have hnp := G.np ht
    have hr := R.2.2.2.1 t ht
    have hve := vlu_eq G (tab := tab) (hv := hv) ht
    have hsz := G.2.2.2.2.2.2.1 t ht
    have hno : ∀ lv2, eX7_triedValueOf N (d + k + 2) w (-1) lv2 = some (w, 0) := fun lv2 => by
      show bX7_triedValueOf_0 N (d + k + 1) (eX7_triedValueOf N (d + k + 1)) w (-1) lv2 = _
      unfold bX7_triedValueOf_0 bX7_triedValueOf_11
      rw [if_pos rfl]
    have hsum : 1 + two (npB B t) (szB B (aB B t)) (szB B (bB B t)) = szB B t := by
      unfold capN at hsz
      split at hsz <;> omega
    unfold bX7_triedValueOf_0
    rw [if_neg (nI_m1 (by omega)), if_pos (by rw [show (30 : Int32) = nI 30 from rfl, nI_leI (by omega) (by omega)]; omega), cIsVar G R ht, cl_s]
    by_cases hb : hB B t < 10
    · rw [if_pos hb, if_pos i00, ld_n (by omega) (by omega), hr.2.1, nI_1]
      have hix := (vlu_le G (tab := tab) (hv := hv) h1 (t + 1) t (by omega) ht (fun v hv _ => h3 v hv)).2 hb
      rw [if_pos hb] at hve
      have ea : eX7_triedValueOf N (d + k + 2) w (eN (aB B t)) (nI (lv + 1)) = some (w, nI (if 1 ≤ npB B t then vlu B tab hv (aB B t) else 0)) := by
        by_cases z : 1 ≤ npB B t
        · have hlt := hnp.2.2.1 z
          have : szB B (aB B t) + 1 ≤ szB B t := by unfold two at hsum; rw [if_pos z] at hsum; omega
          rw [if_pos z, eN_n (by omega)]
          exact ih d (aB B t) (lv + 1) (by omega) (by omega) (by omega)
        · rw [if_neg z, hnp.2.2.2.2.1 z, eN_no]
          exact hno _
      have eb : eX7_triedValueOf N (d + k + 2) w (eN (bB B t)) (nI (lv + 1)) = some (w, nI (if 2 ≤ npB B t then vlu B tab hv (bB B t) else 0)) := by
        by_cases z : 2 ≤ npB B t
        · have hlt := hnp.2.2.2.1 z
          have : szB B (bB B t) + 1 ≤ szB B t := by unfold two at hsum; rw [if_pos z] at hsum; omega
          rw [if_pos z, eN_n (by omega)]
          exact ih d (bB B t) (lv + 1) (by omega) (by omega) (by omega)
        · rw [if_neg z, hnp.2.2.2.2.2 z, eN_no]
          exact hno _
      rw [ea, cl_s, ld_n (by omega) (by omega), hr.2.2.1, eb, cl_s, ld_n (by omega) (by omega), hr.1, cellAt_n, cl_s, ld_n (by omega) (by omega), h35 _ (by omega), ← hve]
    · rw [if_neg hb, if_neg i10, ld_n (by omega) (by omega), hr.1, show (10 : Int32) = nI 10 from rfl, pk_sub (by omega), ld_n (by omega) (by omega), h37 _ (by omega)]
      rw [if_neg hb] at hve
      rw [hve]
