theorem nx_or (a b : Nat) : nI a ||| nI b = nI (a ||| b) := by
  apply Int32.toBitVec_inj.1
  show BitVec.ofNat 32 a ||| BitVec.ofNat 32 b = BitVec.ofNat 32 (a ||| b)
  apply BitVec.eq_of_getLsbD_eq
  intro i hi
  simp [hi]
theorem lc_le {a b : Nat} (ha : a < 2 ^ 63) (hb : b < 2 ^ 63) : lg_cmp (lN a) (lN b) ≤ 0 ↔ a ≤ b := by
  unfold lg_cmp
  by_cases h1 : b < a
  · rw [if_pos ((pk_lLT hb ha).mpr h1)]
    exact ⟨fun h => absurd h (by decide), fun h => by omega⟩
  · rw [if_neg (fun q => h1 ((pk_lLT hb ha).mp q))]
    by_cases h2 : a = b
    · rw [if_pos (by rw [h2])]
      exact ⟨fun _ => by omega, fun _ => by decide⟩
    · rw [if_neg (fun q => h2 ((pk_lEQ ha hb).mp q))]
      exact ⟨fun _ => by omega, fun _ => by decide⟩
theorem lc_gt {a b : Nat} (ha : a < 2 ^ 63) (hb : b < 2 ^ 63) : 0 < lg_cmp (lN a) (lN b) ↔ b < a := by
  unfold lg_cmp
  by_cases h1 : b < a
  · rw [if_pos ((pk_lLT hb ha).mpr h1)]
    exact ⟨fun _ => h1, fun _ => by decide⟩
  · rw [if_neg (fun q => h1 ((pk_lLT hb ha).mp q))]
    by_cases h2 : a = b
    · rw [if_pos (by rw [h2])]
      exact ⟨fun h => absurd h (by decide), fun h => absurd h h1⟩
    · rw [if_neg (fun q => h2 ((pk_lEQ ha hb).mp q))]
      exact ⟨fun h => absurd h (by decide), fun h => absurd h h1⟩
theorem lN_cap : (1000000000000000 : Int64) = lN 1000000000000000 := rfl
theorem sh1 : ∀ v, v < 8 → (1 : Int32) <<< (nI v &&& 31) = nI (2 ^ v) := by decide
theorem cMeas_tail {N d t S W M : Nat} {w : Wd} (ht : t < 1000) (hS : S < 2 ^ 62) (hW : W < 2 ^ 62) : bX8_measure_154 N d w (nI t) (lN S) (lN W) (nI M) = some (pA (pB (pB w 17 (vp_updL (aL w 17) t (lN (capN S)))) 18 (vp_updL (aL w 18) t (lN (capN W)))) 19 (upd (aI w 19) t (nI M))) := by
  have h197 : ∀ (w : Wd) (y : Int64), bX8_measure_197 N d w (nI t) (nI M) (nI t) y = some (pA (pB w 18 (vp_updL (aL w 18) t y)) 19 (upd (aI w 19) t (nI M))) := by
    intro w y
    unfold bX8_measure_197
    rw [sl_n ht (by omega), st_n ht (by omega)]
    rfl
  have h174 : ∀ (w : Wd) (y : Int64), bX8_measure_174 N d w (nI t) (lN W) (nI M) (nI t) y = some (pA (pB (pB w 17 (vp_updL (aL w 17) t y)) 18 (vp_updL (aL w 18) t (lN (capN W)))) 19 (upd (aI w 19) t (nI M))) := by
    intro w y
    unfold bX8_measure_174
    rw [sl_n ht (by omega), lN_cap]
    by_cases q : W ≤ 1000000000000000
    · rw [if_pos ((lc_le (by omega) (by omega)).mpr q), h197, capN, if_neg (by omega)]
      rfl
    · rw [if_neg (fun z => q ((lc_le (by omega) (by omega)).mp z)), h197, capN, if_pos (by omega)]
      rfl
  unfold bX8_measure_154
  rw [lN_cap]
  by_cases q : S ≤ 1000000000000000
  · rw [if_pos ((lc_le (by omega) (by omega)).mpr q), h174, show capN S = S from by rw [capN, if_neg (by omega)]]
  · rw [if_neg (fun z => q ((lc_le (by omega) (by omega)).mp z)), h174, show capN S = 1000000000000000 from by rw [capN, if_pos (by omega)]]
/-- the mask of a term's variables -/
def MK (B : Bk) (t M : Nat) : Prop := M < 256 ∧ ∀ v, v < 8 → M.testBit v = decide (0 < ctB B t v)
theorem or_lt {a b : Nat} (ha : a < 256) (hb : b < 256) : a ||| b < 256 := Nat.or_lt_two_pow (n := 8) ha hb
theorem cMeas {B : Bk} (G : GB B) {N d t h a b : Nat} {w : Wd} (ht : t < 1000) (e14 : aI w 14 t = nI h) (e15 : aI w 15 t = eN a) (e16 : aI w 16 t = eN b) (e13 : aI w 13 h = nI (wtB B h)) (hv : VN B h a b)
    (hR : ∀ q, q < nB B → aL w 17 q = lN (szB B q) ∧ aL w 18 q = lN (wgB B q) ∧ ∃ M, MK B q M ∧ aI w 19 q = nI M) :
    ∃ M, (M < 256 ∧ ∀ v, v < 8 → M.testBit v = decide (0 < capN ((if h = 10 + v then 1 else 0) + two (arB B h) (ctB B a v) (ctB B b v)))) ∧
      eX8_measure N (d + 1) w (nI t) = some (pA (pB (pB w 17 (vp_updL (aL w 17) t (lN (capN (1 + two (arB B h) (szB B a) (szB B b)))))) 18 (vp_updL (aL w 18) t (lN (capN (wtB B h + two (arB B h) (wgB B a) (wgB B b)))))) 19 (upd (aI w 19) t (nI M))) := by
  have hn := G.1
  have hs10 := G.2.1
  have hh : h < 18 := by rcases hv.1 with q | q <;> omega
  have hwt : wtB B h ≤ 9 := by
    rcases hv.1 with q | q
    · exact (G.2.2.1 h q).2.2
    · rw [(G.2.2.2.1 h q.1).2]; omega
  have hszle : ∀ q, q < nB B → szB B q ≤ 1000000000000000 ∧ wgB B q ≤ 1000000000000000 := fun q hq => ⟨by rw [G.2.2.2.2.2.2.1 q hq]; exact capN_le _, by rw [G.2.2.2.2.2.2.2.1 q hq]; exact capN_le _⟩
  -- the second part
  have h98 : ∀ (S W M0 : Nat), S < 2 ^ 60 → W < 2 ^ 60 → ∃ M1, (b < nB B → 2 ≤ arB B h → MK B b M1) ∧ (¬ 2 ≤ arB B h → M1 = 0) ∧ M1 < 256 ∧
      bX8_measure_98 N d w (nI t) (lN S) (lN W) (nI M0) = bX8_measure_154 N d w (nI t) (lN (S + (if 2 ≤ arB B h then szB B b else 0))) (lN (W + (if 2 ≤ arB B h then wgB B b else 0))) (nI (M0 ||| M1)) := by
    intro S W M0 hS hW
    unfold bX8_measure_98
    simp only [c_nm]
    rw [ld_n ht (by omega), e16]
    by_cases q : 2 ≤ arB B h
    · have hb := hv.2.2
      rw [if_pos q] at hb
      obtain ⟨r1, r2, M1, r3, r4⟩ := hR b hb
      refine ⟨M1, fun _ _ => r3, fun z => absurd q z, r3.1, ?_⟩
      rw [if_neg (eN_m1 (by omega)), ld_n ht (by omega), e16, eN_n (by omega), ll_n (by omega) (by omega), ld_n ht (by omega), e16, eN_n (by omega), ll_n (by omega) (by omega), ld_n ht (by omega), e16, eN_n (by omega), ld_n (by omega) (by omega), r1, r2, r4, lN_add, lN_add, nx_or, if_pos q, if_pos q]
    · have hb := hv.2.2
      rw [if_neg q] at hb
      refine ⟨0, fun _ z => absurd z q, fun _ => rfl, by omega, ?_⟩
      rw [hb, eN_no, if_pos rfl, if_neg q, if_neg q, Nat.or_zero]
      rfl
  have h40 : ∀ (M0 : Nat), M0 < 256 → (∀ v, v < 8 → M0.testBit v = decide (h = 10 + v)) → ∃ M, (M < 256 ∧ ∀ v, v < 8 → M.testBit v = decide (0 < capN ((if h = 10 + v then 1 else 0) + two (arB B h) (ctB B a v) (ctB B b v)))) ∧
      bX8_measure_40 N d w (nI t) (lN 1) (lN (wtB B h)) (nI M0) = bX8_measure_154 N d w (nI t) (lN (1 + two (arB B h) (szB B a) (szB B b))) (lN (wtB B h + two (arB B h) (wgB B a) (wgB B b))) (nI M) := by
    intro M0 hM0 hbit
    unfold bX8_measure_40
    simp only [c_nm]
    rw [ld_n ht (by omega), e15]
    by_cases q : 1 ≤ arB B h
    · have ha := hv.2.1
      rw [if_pos q] at ha
      obtain ⟨r1, r2, M2, r3, r4⟩ := hR a ha
      have hl := hszle a ha
      obtain ⟨M1, m1, m2, m3, m4⟩ := h98 (1 + szB B a) (wtB B h + wgB B a) (M0 ||| M2) (by omega) (by omega)
      refine ⟨M0 ||| M2 ||| M1, ⟨or_lt (or_lt hM0 r3.1) m3, fun v hv8 => ?_⟩, ?_⟩
      · rw [Nat.testBit_or, Nat.testBit_or, hbit v hv8, r3.2 v hv8]
        unfold two
        rw [if_pos q]
        by_cases q2 : 2 ≤ arB B h
        · have hb := hv.2.2
          rw [if_pos q2] at hb
          rw [(m1 hb q2).2 v hv8, if_pos q2]
          by_cases e1 : h = 10 + v <;> by_cases e2 : 0 < ctB B a v <;> by_cases e3 : 0 < ctB B b v <;> simp [e1, e2, e3, capN] <;> (try split) <;> omega
        · rw [m2 q2, if_neg q2]
          by_cases e1 : h = 10 + v <;> by_cases e2 : 0 < ctB B a v <;> simp [e1, e2, capN] <;> (try split) <;> omega
      · rw [if_neg (eN_m1 (by omega)), ld_n ht (by omega), e15, eN_n (by omega), ll_n (by omega) (by omega), ld_n ht (by omega), e15, eN_n (by omega), ll_n (by omega) (by omega), ld_n ht (by omega), e15, eN_n (by omega), ld_n (by omega) (by omega), r1, r2, r4, lN_add, lN_add, nx_or, m4]
        unfold two
        rw [if_pos q, if_pos q, Nat.add_assoc, Nat.add_assoc]
    · have ha := hv.2.1
      rw [if_neg q] at ha
      have q2 : ¬ 2 ≤ arB B h := by omega
      obtain ⟨M1, m1, m2, m3, m4⟩ := h98 1 (wtB B h) M0 (by omega) (by omega)
      refine ⟨M0 ||| M1, ⟨or_lt hM0 m3, fun v hv8 => ?_⟩, ?_⟩
      · rw [m2 q2, Nat.or_zero, hbit v hv8]
        unfold two
        rw [if_neg q, if_neg q2]
        by_cases e1 : h = 10 + v <;> simp [e1, capN]
      · rw [ha, eN_no, if_pos rfl, m4]
        unfold two
        simp [q, q2]
  have key : eX8_measure N (d + 1) w (nI t) = bX8_measure_0 N d w (nI t) := rfl
  rw [key]
  unfold bX8_measure_0
  simp only [c_nm]
  rw [ld_n ht (by omega), e14, ld_n (by omega) (by omega), e13, nI_l (by omega), ld_n ht (by omega), e14]
  have hS1 : 1 + two (arB B h) (szB B a) (szB B b) < 2 ^ 62 ∧ wtB B h + two (arB B h) (wgB B a) (wgB B b) < 2 ^ 62 := by
    unfold two
    have h1 : 1 ≤ arB B h → szB B a ≤ 1000000000000000 ∧ wgB B a ≤ 1000000000000000 := fun q => hszle a (by have := hv.2.1; rw [if_pos q] at this; exact this)
    have h2 : 2 ≤ arB B h → szB B b ≤ 1000000000000000 ∧ wgB B b ≤ 1000000000000000 := fun q => hszle b (by have := hv.2.2; rw [if_pos q] at this; exact this)
    by_cases q1 : 1 ≤ arB B h <;> by_cases q2 : 2 ≤ arB B h <;> simp only [q1, q2, if_true, if_false] <;> (try have := h1 q1) <;> (try have := h2 q2) <;> omega
  by_cases q : 10 ≤ h
  · rw [show (10 : Int32) = nI 10 from rfl, pk_sub q, if_neg (nI_pos (by omega)), sh1 (h - 10) (by omega)]
    obtain ⟨M, hM, hE⟩ := h40 (2 ^ (h - 10)) (by
      have h8 : h - 10 < 8 := by omega
      have : ∀ z, z < 8 → 2 ^ z < 256 := by decide
      exact this _ h8) (fun v hv8 => by
      rw [Nat.testBit_two_pow]
      by_cases e : h = 10 + v
      · simp [e]
      · have : ¬ h - 10 = v := by omega
        simp [e, this])
    exact ⟨M, hM, hE.trans (cMeas_tail ht hS1.1 hS1.2)⟩
  · have hneg : nI h - 10 < 0 := pk_sneg (a := h) (b := 10) (by omega) (by omega)
    rw [if_pos hneg]
    obtain ⟨M, hM, hE⟩ := h40 0 (by omega) (fun v hv8 => by
      have : ¬ h = 10 + v := by omega
      simp [this])
    exact ⟨M, hM, hE.trans (cMeas_tail ht hS1.1 hS1.2)⟩
