/-! one place of one rule, met with another rule -/
theorem row4 : ∀ k, k < 60 → ((4 : Int32) * nI k = nI (4 * k) ∧ (4 : Int32) * nI k + 1 = nI (4 * k + 1) ∧ (4 : Int32) * nI k + 2 = nI (4 * k + 2) ∧ (4 : Int32) * nI k + 3 = nI (4 * k + 3)) := by decide
/-- the reference's row -/
theorem mRow {k : Nat} {w : Wd} {x1 x2 v1 v2 : Int32} {x4 : Int64} (hk : k < 60) (h14 : sI w 14 = nI k) :
    ∃ w2, (∀ K : Wd → Option Wd, (c_st w 27 240 (4 * (sI w 14)) x1 fun w24 => c_st w24 27 240 ((4 * (sI w24 14)) + 1) x2 fun w25 => c_st w25 27 240 ((4 * (sI w25 14)) + 2) v1 fun w26 => c_st w26 27 240 ((4 * (sI w26 14)) + 3) v2 fun w27 => c_sl w27 28 60 (sI w27 14) x4 fun w28 => c_pi w28 14 ((sI w28 14) + 1) fun w29 => K w29) = K w2) ∧
      Fr (fun k => k == 14) (fun k => k == 27 || k == 28) w w2 ∧ sI w2 14 = nI (k + 1) ∧ aI w2 27 (4 * k) = x1 ∧ aI w2 27 (4 * k + 1) = x2 ∧ aI w2 27 (4 * k + 2) = v1 ∧ aI w2 27 (4 * k + 3) = v2 ∧ aL w2 28 k = x4 ∧ (∀ q, q < 4 * k → aI w2 27 q = aI w 27 q) ∧ ∀ q, q < k → aL w2 28 q = aL w 28 q := by
  obtain ⟨r0, r1, r2, r3⟩ := row4 k hk
  refine ⟨pI (pB (pA w 27 (upd (upd (upd (upd (aI w 27) (4 * k) x1) (4 * k + 1) x2) (4 * k + 2) v1) (4 * k + 3) v2)) 28 (vp_updL (aL w 28) k x4)) 14 (nI (k + 1)), fun K => ?_, (((Fr.rf w).pa (k := 27) rfl).pb (k := 28) rfl).pi (k := 14) rfl, rfl, ?_, ?_, ?_, ?_, ?_, fun q hq => ?_, fun q hq => ?_⟩
  · rw [h14, r0, st_n (by omega) (by omega)]
    rw [show sI (pA w 27 (upd (aI w 27) (4 * k) x1)) 14 = nI k from h14, r1, st_n (by omega) (by omega)]
    rw [show aI (pA w 27 (upd (aI w 27) (4 * k) x1)) 27 = upd (aI w 27) (4 * k) x1 from rfl, pA_pA]
    rw [show sI (pA w 27 (upd (upd (aI w 27) (4 * k) x1) (4 * k + 1) x2)) 14 = nI k from h14, r2, st_n (by omega) (by omega)]
    rw [show aI (pA w 27 (upd (upd (aI w 27) (4 * k) x1) (4 * k + 1) x2)) 27 = upd (upd (aI w 27) (4 * k) x1) (4 * k + 1) x2 from rfl, pA_pA]
    rw [show sI (pA w 27 (upd (upd (upd (aI w 27) (4 * k) x1) (4 * k + 1) x2) (4 * k + 2) v1)) 14 = nI k from h14, r3, st_n (by omega) (by omega)]
    rw [show aI (pA w 27 (upd (upd (upd (aI w 27) (4 * k) x1) (4 * k + 1) x2) (4 * k + 2) v1)) 27 = upd (upd (upd (aI w 27) (4 * k) x1) (4 * k + 1) x2) (4 * k + 2) v1 from rfl, pA_pA]
    rw [show sI (pA w 27 (upd (upd (upd (upd (aI w 27) (4 * k) x1) (4 * k + 1) x2) (4 * k + 2) v1) (4 * k + 3) v2)) 14 = nI k from h14, sl_n (by omega) (by omega)]
    simp only [c_pi]
    rw [show sI (pB (pA w 27 (upd (upd (upd (upd (aI w 27) (4 * k) x1) (4 * k + 1) x2) (4 * k + 2) v1) (4 * k + 3) v2)) 28 (vp_updL (aL (pA w 27 (upd (upd (upd (upd (aI w 27) (4 * k) x1) (4 * k + 1) x2) (4 * k + 2) v1) (4 * k + 3) v2)) 28) k x4)) 14 = nI k from h14, nI_1]
    rfl
  · show upd (upd (upd (upd (aI w 27) (4 * k) x1) (4 * k + 1) x2) (4 * k + 2) v1) (4 * k + 3) v2 (4 * k) = _
    rw [upd_n (by omega), upd_n (by omega), upd_n (by omega), upd_s]
  · show upd (upd (upd (upd (aI w 27) (4 * k) x1) (4 * k + 1) x2) (4 * k + 2) v1) (4 * k + 3) v2 (4 * k + 1) = _
    rw [upd_n (by omega), upd_n (by omega), upd_s]
  · show upd (upd (upd (upd (aI w 27) (4 * k) x1) (4 * k + 1) x2) (4 * k + 2) v1) (4 * k + 3) v2 (4 * k + 2) = _
    rw [upd_n (by omega), upd_s]
  · show upd (upd (upd (upd (aI w 27) (4 * k) x1) (4 * k + 1) x2) (4 * k + 2) v1) (4 * k + 3) v2 (4 * k + 3) = _
    rw [upd_s]
  · exact updL_s
  · show upd (upd (upd (upd (aI w 27) (4 * k) x1) (4 * k + 1) x2) (4 * k + 2) v1) (4 * k + 3) v2 q = _
    rw [upd_n (by omega), upd_n (by omega), upd_n (by omega), upd_n (by omega)]
  · exact updL_n (by omega)
/-- the class's row -/
theorem cAddP {N d k fs : Nat} {w : Wd} {x1 x2 v1 v2 : Int32} {x4 : Int64} (hk : k < 60) (hfs : fs ≤ 60) (h16 : sI w 16 = nI k) (h18 : sI w 18 = nI fs) :
    ∃ w2, eX2_add N (d + 1) w x1 x2 x4 v1 v2 = some w2 ∧ Fr (fun k => k == 16) rwA w w2 ∧ sI w2 16 = nI (k + 1) ∧ aI w2 45 (fs + k) = x1 ∧ aI w2 46 (fs + k) = x2 ∧ aL w2 47 (fs + k) = x4 ∧ aI w2 48 (fs + k) = v1 ∧ aI w2 49 (fs + k) = v2 ∧
      ∀ q, q ≠ fs + k → aI w2 45 q = aI w 45 q ∧ aI w2 46 q = aI w 46 q ∧ aL w2 47 q = aL w 47 q ∧ aI w2 48 q = aI w 48 q ∧ aI w2 49 q = aI w 49 q := by
  have key : eX2_add N (d + 1) w x1 x2 x4 v1 v2 = bX2_add_0 N d w x1 x2 x4 v1 v2 := rfl
  rw [key]
  unfold bX2_add_0 bX2_add_72
  rw [h16, h18, if_neg (by rw [show (60 : Int32) = nI 60 from rfl, nI_leI (by omega) (by omega)]; omega), nI_add]
  simp only [c_nm]
  rw [st_n (by omega) (by omega), st_n (by omega) (by omega), sl_n (by omega) (by omega), st_n (by omega) (by omega), st_n (by omega) (by omega)]
  simp only [c_pi]
  refine ⟨_, rfl, ((((((Fr.rf w).pa (k := 45) rfl).pa (k := 46) rfl).pb (k := 47) rfl).pa (k := 48) rfl).pa (k := 49) rfl).pi (k := 16) rfl, ?_, upd_s, upd_s, updL_s, upd_s, upd_s, fun q hq => ⟨upd_n hq, upd_n hq, updL_n hq, upd_n hq, upd_n hq⟩⟩
  show sI w 16 + 1 = _
  rw [h16, nI_1]
theorem Rw.add {B B2 : Bk} {fs k v1 v2 : Nat} {wc wm c2 m2 : Wd} {x1 x2 : Int32} {x4 : Int64} (h : Rw B fs k wc wm) (hk : k < 60) (en : nB B ≤ nB B2) (h1 : v1 < nB B2) (h2 : v2 < nB B2) (c16 : sI c2 16 = nI (k + 1)) (m14 : sI m2 14 = nI (k + 1)) (c45 : aI c2 45 (fs + k) = x1) (c46 : aI c2 46 (fs + k) = x2) (c47 : aL c2 47 (fs + k) = x4) (c48 : aI c2 48 (fs + k) = nI v1) (c49 : aI c2 49 (fs + k) = nI v2)
    (co : ∀ q, q ≠ fs + k → aI c2 45 q = aI wc 45 q ∧ aI c2 46 q = aI wc 46 q ∧ aL c2 47 q = aL wc 47 q ∧ aI c2 48 q = aI wc 48 q ∧ aI c2 49 q = aI wc 49 q) (m0 : aI m2 27 (4 * k) = x1) (m1 : aI m2 27 (4 * k + 1) = x2) (mv1 : aI m2 27 (4 * k + 2) = nI v1) (mv2 : aI m2 27 (4 * k + 3) = nI v2) (m28 : aL m2 28 k = x4) (mo : ∀ q, q < 4 * k → aI m2 27 q = aI wm 27 q) (mo2 : ∀ q, q < k → aL m2 28 q = aL wm 28 q) : Rw B2 fs (k + 1) c2 m2 := by
  refine ⟨by omega, c16, m14, fun q hq => ?_⟩
  by_cases e : q = k
  · subst e
    rw [c45, c46, c47, c48, c49, m0, m1, mv1, mv2, m28]
    exact ⟨rfl, rfl, rfl, rfl, rfl, ⟨v1, h1, rfl⟩, ⟨v2, h2, rfl⟩⟩
  · obtain ⟨o1, o2, o3, o4, o5⟩ := co (fs + q) (by omega)
    obtain ⟨q1, q2, q3, q4, q5, ⟨x, y1, y2⟩, ⟨y, z1, z2⟩⟩ := h.2.2.2 q (by omega)
    rw [o1, o2, o3, o4, o5, mo (4 * q) (by omega), mo (4 * q + 1) (by omega), mo (4 * q + 2) (by omega), mo (4 * q + 3) (by omega), mo2 q (by omega)]
    exact ⟨q1, q2, q3, q4, q5, ⟨x, Nat.lt_of_lt_of_le y1 en, y2⟩, ⟨y, Nat.lt_of_lt_of_le z1 en, z2⟩⟩
