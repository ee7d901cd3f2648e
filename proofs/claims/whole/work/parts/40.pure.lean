/-! numbers and worlds -/
section P0
theorem ld_n {Z : Type} {w : Wd} {k n i : Nat} {K : Int32 → Option Z} (h : i < n) (hn : n ≤ 8192) : c_ld w k n (nI i) K = K (aI w k i) := by
  unfold c_ld
  rw [nI_clamp (by omega), if_neg]
  rintro (q | q)
  · exact nI_pos (by omega) q
  · omega
theorem ll_n {Z : Type} {w : Wd} {k n i : Nat} {K : Int64 → Option Z} (h : i < n) (hn : n ≤ 8192) : c_ll w k n (nI i) K = K (aL w k i) := by
  unfold c_ll
  rw [nI_clamp (by omega), if_neg]
  rintro (q | q)
  · exact nI_pos (by omega) q
  · omega
theorem st_n {Z : Type} {w : Wd} {k n i : Nat} {x : Int32} {K : Wd → Option Z} (h : i < n) (hn : n ≤ 8192) : c_st w k n (nI i) x K = K (pA w k (upd (aI w k) i x)) := by
  unfold c_st
  rw [nI_clamp (by omega), if_neg]
  rintro (q | q)
  · exact nI_pos (by omega) q
  · omega
theorem sz_n {Z : Type} {w : Wd} {k n i : Nat} {x : Int32} {K : Wd → Option Z} (h : i < n) (hn : n ≤ 8192) : c_sz w k n (nI i) x K = K (pA w k (upd (aI w k) i (vp_nar .boolean x))) := by
  unfold c_sz
  rw [nI_clamp (by omega), if_neg]
  rintro (q | q)
  · exact nI_pos (by omega) q
  · omega
theorem sl_n {Z : Type} {w : Wd} {k n i : Nat} {x : Int64} {K : Wd → Option Z} (h : i < n) (hn : n ≤ 8192) : c_sl w k n (nI i) x K = K (pB w k (vp_updL (aL w k) i x)) := by
  unfold c_sl
  rw [nI_clamp (by omega), if_neg]
  rintro (q | q)
  · exact nI_pos (by omega) q
  · omega
theorem sI_pI (w : Wd) (k : Nat) (v : Int32) (j : Nat) : sI (pI w k v) j = if j = k then v else sI w j := rfl
theorem sI_pA (w : Wd) (k : Nat) (f : Nat → Int32) (j : Nat) : sI (pA w k f) j = sI w j := rfl
theorem sI_pB (w : Wd) (k : Nat) (f : Nat → Int64) (j : Nat) : sI (pB w k f) j = sI w j := rfl
theorem sI_pL (w : Wd) (k : Nat) (v : Int64) (j : Nat) : sI (pL w k v) j = sI w j := rfl
theorem aI_pI (w : Wd) (k : Nat) (v : Int32) (j : Nat) : aI (pI w k v) j = aI w j := rfl
theorem aI_pA (w : Wd) (k : Nat) (f : Nat → Int32) (j : Nat) : aI (pA w k f) j = if j = k then f else aI w j := rfl
theorem aI_pB (w : Wd) (k : Nat) (f : Nat → Int64) (j : Nat) : aI (pB w k f) j = aI w j := rfl
theorem aI_pL (w : Wd) (k : Nat) (v : Int64) (j : Nat) : aI (pL w k v) j = aI w j := rfl
theorem aL_pI (w : Wd) (k : Nat) (v : Int32) (j : Nat) : aL (pI w k v) j = aL w j := rfl
theorem aL_pA (w : Wd) (k : Nat) (f : Nat → Int32) (j : Nat) : aL (pA w k f) j = aL w j := rfl
theorem aL_pB (w : Wd) (k : Nat) (f : Nat → Int64) (j : Nat) : aL (pB w k f) j = if j = k then f else aL w j := rfl
theorem aL_pL (w : Wd) (k : Nat) (v : Int64) (j : Nat) : aL (pL w k v) j = aL w j := rfl
theorem sL_pI (w : Wd) (k : Nat) (v : Int32) (j : Nat) : sL (pI w k v) j = sL w j := rfl
theorem sL_pA (w : Wd) (k : Nat) (f : Nat → Int32) (j : Nat) : sL (pA w k f) j = sL w j := rfl
theorem sL_pB (w : Wd) (k : Nat) (f : Nat → Int64) (j : Nat) : sL (pB w k f) j = sL w j := rfl
theorem sL_pL (w : Wd) (k : Nat) (v : Int64) (j : Nat) : sL (pL w k v) j = if j = k then v else sL w j := rfl
def fu {α : Type} (f : Nat → α) (k : Nat) (v : α) : Nat → α := fun j => if j = k then v else f j
theorem fu_s {α : Type} {f : Nat → α} {k : Nat} {v : α} : fu f k v k = v := by simp [fu]
theorem fu_n {α : Type} {f : Nat → α} {k j : Nat} {v : α} (h : j ≠ k) : fu f k v j = f j := by simp [fu, h]
/-- a part's number, or none -/
def eN (x : Nat) : Int32 := if x = 2000 then -1 else nI x
theorem eN_no : eN 2000 = -1 := rfl
theorem eN_n {x : Nat} (h : x < 2000) : eN x = nI x := by unfold eN; rw [if_neg (by omega)]
theorem nI_m1 {x : Nat} (h : x < 2 ^ 31) : ¬ nI x = -1 := fun q => by
  have h1 := congrArg Int32.toInt q
  rw [nI_toInt h] at h1
  have : (-1 : Int32).toInt = -1 := by decide
  omega
theorem eN_m1 {x : Nat} (h : x < 2000) : ¬ eN x = -1 := by rw [eN_n h]; exact nI_m1 (by omega)
theorem eN_eq {x y : Nat} (hx : x ≤ 2000) (hy : y ≤ 2000) : eN x = eN y ↔ x = y := by
  refine ⟨fun h => ?_, fun h => by rw [h]⟩
  by_cases h1 : x = 2000
  · by_cases h2 : y = 2000
    · omega
    · rw [h1, eN_no] at h
      exact absurd h.symm (eN_m1 (by omega))
  · by_cases h2 : y = 2000
    · rw [h2, eN_no] at h
      exact absurd h (eN_m1 (by omega))
    · rw [eN_n (by omega), eN_n (by omega)] at h
      exact (nI_eq (by omega) (by omega)).mp h
end P0
/-! the bank of terms -/
abbrev Bk : Type := Nat × (Nat → Nat) × (Nat → Nat) × (Nat → Nat) × Nat × (Nat → Nat) × (Nat → Nat) × (Nat → Nat) × (Nat → Nat) × (Nat → Nat → Nat)
def nB (B : Bk) : Nat := B.1
def hB (B : Bk) : Nat → Nat := B.2.1
def aB (B : Bk) : Nat → Nat := B.2.2.1
def bB (B : Bk) : Nat → Nat := B.2.2.2.1
def sB (B : Bk) : Nat := B.2.2.2.2.1
def arB (B : Bk) : Nat → Nat := B.2.2.2.2.2.1
def wtB (B : Bk) : Nat → Nat := B.2.2.2.2.2.2.1
def szB (B : Bk) : Nat → Nat := B.2.2.2.2.2.2.2.1
def wgB (B : Bk) : Nat → Nat := B.2.2.2.2.2.2.2.2.1
def ctB (B : Bk) : Nat → Nat → Nat := B.2.2.2.2.2.2.2.2.2
def npB (B : Bk) (t : Nat) : Nat := arB B (hB B t)
def capN (x : Nat) : Nat := if 1000000000000000 < x then 1000000000000000 else x
theorem capN_le (x : Nat) : capN x ≤ 1000000000000000 := by unfold capN; split <;> omega
theorem capN_pos {x : Nat} (h : 0 < x) : 0 < capN x := by unfold capN; split <;> omega
theorem capN_0 {x : Nat} : capN x = 0 ↔ x = 0 := by unfold capN; split <;> omega
/-- a sum over parts -/
def two (k : Nat) (x y : Nat) : Nat := (if 1 ≤ k then x else 0) + (if 2 ≤ k then y else 0)
/-- a node that may stand in the bank -/
def VN (B : Bk) (h a b : Nat) : Prop := (h < sB B ∨ (10 ≤ h ∧ h < 18)) ∧ (if 1 ≤ arB B h then a < nB B else a = 2000) ∧ (if 2 ≤ arB B h then b < nB B else b = 2000)
def GB (B : Bk) : Prop :=
  nB B ≤ 1000 ∧ sB B ≤ 10 ∧ (∀ k, k < sB B → arB B k ≤ 2 ∧ 1 ≤ wtB B k ∧ wtB B k ≤ 9) ∧ (∀ k, 10 ≤ k → arB B k = 0 ∧ wtB B k = 1) ∧
  (∀ t, t < nB B → (hB B t < sB B ∨ (10 ≤ hB B t ∧ hB B t < 18)) ∧ (if 1 ≤ npB B t then aB B t < t else aB B t = 2000) ∧ (if 2 ≤ npB B t then bB B t < t else bB B t = 2000)) ∧
  (∀ s t, s < nB B → t < nB B → hB B s = hB B t → aB B s = aB B t → bB B s = bB B t → s = t) ∧
  (∀ t, t < nB B → szB B t = capN (1 + two (npB B t) (szB B (aB B t)) (szB B (bB B t)))) ∧
  (∀ t, t < nB B → wgB B t = capN (wtB B (hB B t) + two (npB B t) (wgB B (aB B t)) (wgB B (bB B t)))) ∧
  (∀ t, t < nB B → ∀ v, v < 8 → ctB B t v = capN ((if hB B t = 10 + v then 1 else 0) + two (npB B t) (ctB B (aB B t) v) (ctB B (bB B t) v)))
def pushB (B : Bk) (h a b : Nat) : Bk :=
  (nB B + 1, fu (hB B) (nB B) h, fu (aB B) (nB B) a, fu (bB B) (nB B) b, sB B, arB B, wtB B,
   fu (szB B) (nB B) (capN (1 + two (arB B h) (szB B a) (szB B b))), fu (wgB B) (nB B) (capN (wtB B h + two (arB B h) (wgB B a) (wgB B b))),
   fu (ctB B) (nB B) (fun v => capN ((if h = 10 + v then 1 else 0) + two (arB B h) (ctB B a v) (ctB B b v))))
/-- no such node yet -/
def NewN (B : Bk) (h a b : Nat) : Prop := ∀ t, t < nB B → ¬ (hB B t = h ∧ aB B t = a ∧ bB B t = b)
theorem two_congr {k x y x' y' : Nat} (hx : 1 ≤ k → x = x') (hy : 2 ≤ k → y = y') : two k x y = two k x' y' := by
  unfold two
  by_cases h1 : 1 ≤ k
  · by_cases h2 : 2 ≤ k
    · rw [hx h1, hy h2]
    · rw [hx h1, if_neg h2, if_neg h2]
  · rw [if_neg h1, if_neg h1, if_neg (by omega : ¬ 2 ≤ k), if_neg (by omega : ¬ 2 ≤ k)]
theorem GB.push {B : Bk} (G : GB B) {h a b : Nat} (hv : VN B h a b) (hn : NewN B h a b) (hl : nB B < 1000) : GB (pushB B h a b) := by
  obtain ⟨g1, g2, g3, g4, g5, g6, g7, g8, g9⟩ := G
  have en : nB (pushB B h a b) = nB B + 1 := rfl
  have es : sB (pushB B h a b) = sB B := rfl
  have ear : arB (pushB B h a b) = arB B := rfl
  have ewt : wtB (pushB B h a b) = wtB B := rfl
  have hh : ∀ t, hB (pushB B h a b) t = if t = nB B then h else hB B t := fun t => rfl
  have ha : ∀ t, aB (pushB B h a b) t = if t = nB B then a else aB B t := fun t => rfl
  have hb : ∀ t, bB (pushB B h a b) t = if t = nB B then b else bB B t := fun t => rfl
  have hsz : ∀ t, szB (pushB B h a b) t = if t = nB B then capN (1 + two (arB B h) (szB B a) (szB B b)) else szB B t := fun t => rfl
  have hwg : ∀ t, wgB (pushB B h a b) t = if t = nB B then capN (wtB B h + two (arB B h) (wgB B a) (wgB B b)) else wgB B t := fun t => rfl
  have hct : ∀ t v, ctB (pushB B h a b) t v = if t = nB B then capN ((if h = 10 + v then 1 else 0) + two (arB B h) (ctB B a v) (ctB B b v)) else ctB B t v := fun t v => by
    show (if t = nB B then _ else ctB B t) v = _
    split <;> rfl
  have hnp : ∀ t, npB (pushB B h a b) t = if t = nB B then arB B h else npB B t := fun t => by
    unfold npB
    rw [ear, hh]
    split <;> rfl
  refine ⟨by rw [en]; omega, by rw [es]; exact g2, by rw [es, ear, ewt]; exact g3, by rw [ear, ewt]; exact g4, ?_, ?_, ?_, ?_, ?_⟩
  · intro t ht
    rw [en] at ht
    rw [hh, ha, hb, hnp, es]
    by_cases e : t = nB B
    · simp only [if_pos e]
      rw [e]
      exact hv
    · simp only [if_neg e]
      exact g5 t (by omega)
  · intro s t hs ht
    rw [en] at hs ht
    rw [hh, hh, ha, ha, hb, hb]
    by_cases e1 : s = nB B
    · by_cases e2 : t = nB B
      · omega
      · simp only [if_pos e1, if_neg e2]
        intro q1 q2 q3
        exact absurd ⟨q1.symm, q2.symm, q3.symm⟩ (hn t (by omega))
    · by_cases e2 : t = nB B
      · simp only [if_neg e1, if_pos e2]
        intro q1 q2 q3
        exact absurd ⟨q1, q2, q3⟩ (hn s (by omega))
      · simp only [if_neg e1, if_neg e2]
        exact g6 s t (by omega) (by omega)
  · intro t ht
    rw [en] at ht
    rw [hsz, hnp, ha, hb]
    by_cases e : t = nB B
    · simp only [if_pos e]
      refine congrArg (fun z => capN (1 + z)) (two_congr (fun q => ?_) (fun q => ?_))
      · rw [hsz, if_neg]; have := hv.2.1; rw [if_pos q] at this; omega
      · rw [hsz, if_neg]; have := hv.2.2; rw [if_pos q] at this; omega
    · simp only [if_neg e]
      have h5 := g5 t (by omega)
      rw [g7 t (by omega)]
      refine congrArg (fun z => capN (1 + z)) (two_congr (fun q => ?_) (fun q => ?_))
      · rw [hsz, if_neg]; have := h5.2.1; rw [if_pos q] at this; omega
      · rw [hsz, if_neg]; have := h5.2.2; rw [if_pos q] at this; omega
  · intro t ht
    rw [en] at ht
    rw [hwg, hnp, ha, hb, hh, ewt]
    by_cases e : t = nB B
    · simp only [if_pos e]
      refine congrArg (fun z => capN (wtB B h + z)) (two_congr (fun q => ?_) (fun q => ?_))
      · rw [hwg, if_neg]; have := hv.2.1; rw [if_pos q] at this; omega
      · rw [hwg, if_neg]; have := hv.2.2; rw [if_pos q] at this; omega
    · simp only [if_neg e]
      have h5 := g5 t (by omega)
      rw [g8 t (by omega)]
      refine congrArg (fun z => capN (wtB B (hB B t) + z)) (two_congr (fun q => ?_) (fun q => ?_))
      · rw [hwg, if_neg]; have := h5.2.1; rw [if_pos q] at this; omega
      · rw [hwg, if_neg]; have := h5.2.2; rw [if_pos q] at this; omega
  · intro t ht v hv8
    rw [en] at ht
    rw [hct, hnp, ha, hb, hh]
    by_cases e : t = nB B
    · simp only [if_pos e]
      refine congrArg (fun z => capN ((if h = 10 + v then 1 else 0) + z)) (two_congr (fun q => ?_) (fun q => ?_))
      · rw [hct, if_neg]; have := hv.2.1; rw [if_pos q] at this; omega
      · rw [hct, if_neg]; have := hv.2.2; rw [if_pos q] at this; omega
    · simp only [if_neg e]
      have h5 := g5 t (by omega)
      rw [g9 t (by omega) v hv8]
      refine congrArg (fun z => capN ((if hB B t = 10 + v then 1 else 0) + z)) (two_congr (fun q => ?_) (fun q => ?_))
      · rw [hct, if_neg]; have := h5.2.1; rw [if_pos q] at this; omega
      · rw [hct, if_neg]; have := h5.2.2; rw [if_pos q] at this; omega
