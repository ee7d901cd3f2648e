/-! taking back -/
def cutB (B : Bk) (m : Nat) : Bk := (m, B.2)
theorem Ext.cut {B : Bk} {m : Nat} (h : m ≤ nB B) : Ext (cutB B m) B := ⟨h, rfl, rfl, rfl, fun _ _ => ⟨rfl, rfl, rfl, rfl, rfl, rfl⟩⟩
theorem GB.cut {B : Bk} (G : GB B) {m : Nat} (h : m ≤ nB B) : GB (cutB B m) := by
  obtain ⟨g1, g2, g3, g4, g5, g6, g7, g8, g9⟩ := G
  have hm : ∀ t, t < m → t < nB B := fun t ht => by omega
  exact ⟨by show m ≤ 1000; omega, g2, g3, g4, fun t ht => g5 t (hm t ht), fun s t hs ht => g6 s t (hm s hs) (hm t ht), fun t ht => g7 t (hm t ht), fun t ht => g8 t (hm t ht), fun t ht => g9 t (hm t ht)⟩
theorem Ext.bk {B B2 : Bk} (e : Ext B B2) {t : Nat} (ht : t < nB B) : bkB B2 t = bkB B t := by
  have h := e.2.2.2.2 t ht
  unfold bkB
  rw [h.1, h.2.1, h.2.2.1]
theorem Ext.pv {B B2 : Bk} (e : Ext B B2) {k m : Nat} (hm : m ≤ nB B) : pvB B2 k m = pvB B k m := pvB_cg (fun t ht => e.bk (by omega))
theorem RB.cut {B B2 : Bk} (e : Ext B B2) {w w2 : Wd} (R : RB B2 w) (h0 : sI w2 0 = sI w 0) (h1 : sI w2 1 = nI (nB B)) (h2 : ∀ k, 12 ≤ k → k ≤ 21 → k ≠ 20 → aI w2 k = aI w k ∧ aL w2 k = aL w k) (h3 : ∀ k, k < 256 → aI w2 20 k = nI (pvB B2 k (nB B))) : RB B w2 := by
  obtain ⟨r1, r2, r3, r4, r5, r6, r7⟩ := R
  have en := e.1
  refine ⟨by rw [h0, r1, e.2.1], h1, fun k hk => ?_, fun t ht => ?_, fun t ht => ?_, fun k hk => ?_, fun t ht => ?_⟩
  · rw [(h2 12 (by omega) (by omega) (by omega)).1, (h2 13 (by omega) (by omega) (by omega)).1]
    have := r3 k (by rw [e.2.1]; exact hk)
    rw [e.2.2.1, e.2.2.2.1] at this
    exact this
  · rw [(h2 14 (by omega) (by omega) (by omega)).1, (h2 15 (by omega) (by omega) (by omega)).1, (h2 16 (by omega) (by omega) (by omega)).1, (h2 17 (by omega) (by omega) (by omega)).2, (h2 18 (by omega) (by omega) (by omega)).2]
    have h := e.2.2.2.2 t ht
    have := r4 t (by omega)
    rw [h.1, h.2.1, h.2.2.1, h.2.2.2.1, h.2.2.2.2.1] at this
    exact this
  · rw [(h2 19 (by omega) (by omega) (by omega)).1]
    have h := e.2.2.2.2 t ht
    have := r5 t (by omega)
    rw [h.2.2.2.2.2] at this
    exact this
  · rw [h3 k hk, e.pv (Nat.le_refl _)]
  · rw [(h2 21 (by omega) (by omega) (by omega)).1, r7 t (by omega), e.bk ht, e.pv (by omega)]
theorem cShrinkL {B : Bk} (G : GB B) {N d m : Nat} : ∀ (n q : Nat) (w : Wd), m ≤ q → q ≤ nB B → q < n + m → (∀ k, k < 256 → aI w 20 k = nI (pvB B k q)) →
    (∀ t, t < nB B → aI w 14 t = nI (hB B t) ∧ aI w 15 t = eN (aB B t) ∧ aI w 16 t = eN (bB B t) ∧ aI w 21 t = nI (pvB B (bkB B t) t)) →
    ∃ f, fX8_shrinkTo_7 N (d + 1) n w (nI m) (nI q - 1) = some (pI (pA w 20 f) 1 (nI m)) ∧ ∀ k, k < 256 → f k = nI (pvB B k m) := by
  have g1 := G.1
  intro n
  induction n with
  | zero => intro q w h1 h2 h3; omega
  | succ n ih =>
    intro q w h1 h2 h3 h4 h5
    show ∃ f, bX8_shrinkTo_7 N (d + 1) (fX8_shrinkTo_7 N (d + 1) n) w (nI m) (nI q - 1) = _ ∧ _
    unfold bX8_shrinkTo_7
    simp only [c_nm, c_pi]
    by_cases e : q = m
    · have hlt : nI q - 1 < nI m := by
        rw [e]
        cases m with
        | zero => decide
        | succ m => rw [nI_pred, nI_ltI (by omega) (by omega)]; omega
      rw [if_pos hlt]
      exact ⟨aI w 20, by rw [pA_eta], fun k hk => by rw [h4 k hk, e]⟩
    · obtain ⟨t, rfl⟩ : ∃ t, q = t + 1 := ⟨q - 1, by omega⟩
      have h6 := h5 t (by omega)
      have hb := bkI_eq (nI (hB B t)) (eN (aB B t)) (eN (bB B t))
      have eb : eX8_bucketOf N (d + 1) w (nI (hB B t)) (eN (aB B t)) (eN (bB B t)) = some (w, nI (bkB B t)) := by
        show some (w, _) = _
        rw [hb.1]
        rfl
      have hb2 : bkB B t < 256 := hb.2
      rw [nI_pred, if_neg (fun z => by rw [nI_ltI (by omega) (by omega)] at z; omega), ld_n (by omega) (by omega), h6.1, ld_n (by omega) (by omega), h6.2.1, ld_n (by omega) (by omega), h6.2.2.1, eb, cl_s, ld_n (by omega) (by omega), h6.2.2.2, st_n hb2 (by omega)]
      have em : nI t + (-1) = nI t - 1 := by
        rw [Int32.sub_eq_add_neg]
      rw [em]
      have hs : ∀ k, k < 256 → upd (aI w 20) (bkB B t) (nI (pvB B (bkB B t) t)) k = nI (pvB B k t) := fun k hk => by
        by_cases ek : k = bkB B t
        · rw [ek, upd_s]
        · rw [upd_n ek, h4 k hk]
          show nI (if bkB B t = k then t + 1 else pvB B k t) = _
          rw [if_neg (fun z => ek z.symm)]
      obtain ⟨f, f1, f2⟩ := ih t (pA w 20 (upd (aI w 20) (bkB B t) (nI (pvB B (bkB B t) t)))) (by omega) (by omega) (by omega) hs h5
      exact ⟨f, by rw [f1, pA_pA], f2⟩
theorem cShrink {B B2 : Bk} (G2 : GB B2) (e : Ext B B2) {w : Wd} (R : RB B2 w) {N d : Nat} (hN : 2000000 ≤ N) : ∃ w2, eX8_shrinkTo N (d + 2) w (nI (nB B)) = some w2 ∧ RB B w2 ∧ FrB w w2 := by
  have g1 := G2.1
  have en := e.1
  have key : eX8_shrinkTo N (d + 2) w (nI (nB B)) = fX8_shrinkTo_7 N (d + 1) N w (nI (nB B)) (sI w 1 - 1) := rfl
  rw [key, R.2.1]
  obtain ⟨f, f1, f2⟩ := cShrinkL G2 (N := N) (d := d) (m := nB B) N (nB B2) w en (Nat.le_refl _) (by omega) R.2.2.2.2.2.1 (fun t ht => ⟨(R.2.2.2.1 t ht).1, (R.2.2.2.1 t ht).2.1, (R.2.2.2.1 t ht).2.2.1, R.2.2.2.2.2.2 t ht⟩)
  refine ⟨_, f1, R.cut e rfl rfl (fun k h1 h2 h3 => ?_) f2, fun k hk => ?_, fun k hk => ?_, fun _ => rfl⟩
  · exact ⟨by rw [aI_pI, aI_pA, if_neg h3], rfl⟩
  · rw [sI_pI, if_neg hk]; rfl
  · exact ⟨by rw [aI_pI, aI_pA, if_neg (by omega)], rfl⟩
theorem RM.cut {B B2 : Bk} (e : Ext B B2) {w w2 : Wd} (R : RM B2 (pI w 4 0)) (h1 : sI w2 1 = sI w 1) (h2 : sI w2 2 = nI (nB B)) (h3 : sI w2 4 = 0) (h4 : ∀ k, k < 9 → aI w2 k = aI w k ∧ aL w2 k = aL w k) : RM B w2 := by
  obtain ⟨r1, r2, r3, r4, r5, r6⟩ := R
  have en := e.1
  refine ⟨by rw [h1, ← e.2.1]; exact r1, h2, h3, fun k hk => ?_, fun t ht => ?_, fun t ht v hv => ?_⟩
  · rw [(h4 1 (by omega)).1, (h4 2 (by omega)).1, ← e.2.2.1, ← e.2.2.2.1]
    exact r4 k (by rw [e.2.1]; exact hk)
  · rw [(h4 3 (by omega)).1, (h4 4 (by omega)).1, (h4 5 (by omega)).1, (h4 6 (by omega)).2, (h4 7 (by omega)).2]
    have h := e.2.2.2.2 t ht
    rw [← h.1, ← h.2.1, ← h.2.2.1, ← h.2.2.2.1, ← h.2.2.2.2.1]
    exact r5 t (by omega)
  · rw [(h4 8 (by omega)).2, ← (e.2.2.2.2 t ht).2.2.2.2.2]
    exact r6 t (by omega) v hv
/-! clear -/
def noB (B : Bk) : Bk := (0, hB B, aB B, bB B, 0, arB B, wtB B, szB B, wgB B, ctB B)
theorem GB.no {B : Bk} (G : GB B) : GB (noB B) := by
  obtain ⟨g1, g2, g3, g4, g5, g6, g7, g8, g9⟩ := G
  exact ⟨Nat.zero_le _, Nat.zero_le _, fun k hk => absurd hk (Nat.not_lt_zero _), g4, fun k hk => absurd hk (Nat.not_lt_zero _), fun k _ hk => absurd hk (Nat.not_lt_zero _), fun k hk => absurd hk (Nat.not_lt_zero _), fun k hk => absurd hk (Nat.not_lt_zero _), fun k hk => absurd hk (Nat.not_lt_zero _)⟩
theorem op_clear {N d : Nat} (hN : 2000000 ≤ N) : Op_clear N (d + 5) II := by
  intro t wc wm _ h
  obtain ⟨B, R, G, gr, rb, rm, rc, rr, ru, ⟨k, st, fs, p1, p2, p3, p4, p5, p6, p7⟩, ⟨n, t1, t2, t3, t4, t5, t6, t7⟩, rs⟩ := id h
  have key : eX10_clear N (d + 5) wc = bX10_clear_0 N (d + 4) wc := rfl
  have key2 : eX11_clear N (d + 5) wm = bX11_clear_0 N (d + 4) wm := rfl
  rw [key, key2]
  unfold bX10_clear_0 bX11_clear_0
  simp only [c_pi, c_nm]
  obtain ⟨w2, e1, e2, e3⟩ := cShrink (N := N) (d := d + 2) G (Ext.cut (B := B) (m := 0) (Nat.zero_le _)) rb hN
  have e4 : eX8_shrinkTo N (d + 4) wc 0 = some w2 := e1
  rw [e4, cv_s]
  have hx : sI (pI wm 0 0) 2 = sI wc 1 := rm.2.1.trans rb.2.1.symm
  rw [hx]
  have rs2 := rs.fr e3
  refine ⟨_, _, _, rfl, rfl, noB B, (0, fun _ => 0, fun _ => 0, fun _ => false), G.no, ⟨Nat.zero_le _, fun r hr => absurd hr (Nat.not_lt_zero _)⟩, ⟨rfl, e2.2.1, fun k hk => e2.2.2.1 k ?_, fun t ht => absurd ht (Nat.not_lt_zero _), fun t ht => absurd ht (Nat.not_lt_zero _), fun k hk => ?_, fun t ht => absurd ht (Nat.not_lt_zero _)⟩, ⟨rfl, rfl, rm.2.2.1, fun k hk => absurd hk (Nat.not_lt_zero _), fun t ht => absurd ht (Nat.not_lt_zero _), fun t ht => absurd ht (Nat.not_lt_zero _)⟩, ⟨rfl, fun r hr => absurd hr (Nat.not_lt_zero _)⟩, ⟨rfl, fun r hr => absurd hr (Nat.not_lt_zero _)⟩, ⟨0, by omega, rfl, rfl, fun i hi => absurd hi (Nat.not_lt_zero _)⟩, ⟨0, st, fs, by omega, p2, rfl, (e3.1 17 (by omega)).trans p4, (e3.1 18 (by omega)).trans p5, rfl, fun i hi => absurd hi (Nat.not_lt_zero _)⟩, ⟨0, by omega, rfl, rfl, Or.inl rfl, rfl, fun hz => absurd (show (0 : Int32) = 1 from hz) (by decide), fun hz => absurd hz (Nat.not_lt_zero _)⟩, rs2.up⟩
  · rcases hk with hk | hk
    · exact absurd hk (Nat.not_lt_zero _)
    · exact Or.inr hk
  · exact (e2.2.2.2.2.2.1 k hk).trans rfl
/-! the start -/
def B0 : Bk := (0, fun _ => 0, fun _ => 0, fun _ => 0, 0, fun _ => 0, fun _ => 1, fun _ => 0, fun _ => 0, fun _ _ => 0)
theorem II.start : II 0 wC0 wM0 := by
  refine ⟨B0, (0, fun _ => 0, fun _ => 0, fun _ => false), ⟨Nat.zero_le _, Nat.zero_le _, fun k hk => absurd hk (Nat.not_lt_zero _), fun k hk => ⟨rfl, rfl⟩, fun k hk => absurd hk (Nat.not_lt_zero _), fun k _ hk => absurd hk (Nat.not_lt_zero _), fun k hk => absurd hk (Nat.not_lt_zero _), fun k hk => absurd hk (Nat.not_lt_zero _), fun k hk => absurd hk (Nat.not_lt_zero _)⟩, ⟨Nat.zero_le _, fun r hr => absurd hr (Nat.not_lt_zero _)⟩, ⟨rfl, rfl, fun k hk => ?_, fun t ht => absurd ht (Nat.not_lt_zero _), fun t ht => absurd ht (Nat.not_lt_zero _), fun k hk => rfl, fun t ht => absurd ht (Nat.not_lt_zero _)⟩, ⟨rfl, rfl, rfl, fun k hk => absurd hk (Nat.not_lt_zero _), fun t ht => absurd ht (Nat.not_lt_zero _), fun t ht => absurd ht (Nat.not_lt_zero _)⟩, ⟨rfl, fun r hr => absurd hr (Nat.not_lt_zero _)⟩, ⟨rfl, fun r hr => absurd hr (Nat.not_lt_zero _)⟩, ⟨0, by omega, rfl, rfl, fun i hi => absurd hi (Nat.not_lt_zero _)⟩, ⟨0, 0, 60, by omega, Or.inl ⟨rfl, rfl⟩, rfl, rfl, rfl, rfl, fun i hi => absurd hi (Nat.not_lt_zero _)⟩, ⟨0, by omega, rfl, rfl, Or.inl rfl, rfl, fun hz => absurd (show (0 : Int32) = 1 from hz) (by decide), fun hz => absurd hz (Nat.not_lt_zero _)⟩, ⟨⟨0, by omega, rfl, fun j hj => ⟨0, by omega, rfl⟩⟩, fun j hj => rfl⟩⟩
  rcases hk with hk | hk
  · exact absurd hk (Nat.not_lt_zero _)
  · have hc : ∀ k, k < 18 → 10 ≤ k → aI wC0 12 k = nI 0 ∧ aI wC0 13 k = nI 1 := by decide +kernel
    exact hc k hk.2 hk.1
