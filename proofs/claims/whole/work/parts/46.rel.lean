/-! the relation of the two worlds -/
abbrev Ru : Type := Nat × (Nat → Nat) × (Nat → Nat) × (Nat → Bool)
def b2 (b : Bool) : Int32 := if b then 1 else 0
def GR (B : Bk) (R : Ru) : Prop := R.1 ≤ 16 ∧ ∀ r, r < R.1 → R.2.1 r < nB B ∧ R.2.2.1 r < nB B ∧ hB B (R.2.1 r) < 10 ∧ szB B (R.2.1 r) ≤ 30 ∧ szB B (R.2.2.1 r) ≤ 30 ∧ (∀ v, 4 ≤ v → v < 8 → ctB B (R.2.1 r) v = 0) ∧ (∀ v, v < 8 → ctB B (R.2.1 r) v = 0 → ctB B (R.2.2.1 r) v = 0)
def RRc (R : Ru) (w : Wd) : Prop := sI w 2 = nI R.1 ∧ ∀ r, r < R.1 → aI w 23 r = nI (R.2.1 r) ∧ aI w 24 r = nI (R.2.2.1 r) ∧ aI w 25 r = b2 (R.2.2.2 r)
def RRm (R : Ru) (w : Wd) : Prop := sI w 3 = nI R.1 ∧ ∀ r, r < R.1 → aI w 9 r = nI (R.2.1 r) ∧ aI w 10 r = nI (R.2.2.1 r) ∧ aI w 11 r = b2 (R.2.2.2 r)
/-- steps that are told -/
def RU (wc wm : Wd) : Prop := ∃ k, k ≤ 100 ∧ sI wc 13 = nI k ∧ sI wm 8 = nI k ∧ ∀ i, i < k → aI wc 41 i = aI wm 15 i ∧ aL wc 42 i = aL wm 16 i
/-- pairs that are told -/
def RP (B : Bk) (wc wm : Wd) : Prop := ∃ k st fs, k ≤ 60 ∧ (st = 0 ∧ fs = 60 ∨ st = 60 ∧ fs = 0) ∧ sI wc 15 = nI k ∧ sI wc 17 = nI st ∧ sI wc 18 = nI fs ∧ sI wm 13 = nI k ∧
  ∀ i, i < k → aI wc 45 (st + i) = aI wm 22 i ∧ aI wc 46 (st + i) = aI wm 23 i ∧ aL wc 47 (st + i) = aL wm 24 i ∧ aI wc 48 (st + i) = aI wm 25 i ∧ aI wc 49 (st + i) = aI wm 26 i ∧ (∃ x, x < nB B ∧ aI wm 25 i = nI x) ∧ ∃ x, x < nB B ∧ aI wm 26 i = nI x
/-- tables -/
def RT (B : Bk) (wc wm : Wd) : Prop := ∃ n, n ≤ 3 ∧ sI wc 10 = nI n ∧ sI wm 15 = nI n ∧ (sI wc 11 = 0 ∨ sI wc 11 = 1) ∧ sI wm 16 = sI wc 11 ∧ (sI wc 11 = 1 → ∀ v, v < 4 → aI wc 37 v = aI wm 33 v) ∧
  (0 < n → (∀ j, j < 160 → aI wm 29 j = aI wc 35 j ∧ ∃ x, x ≤ n ∧ aI wc 35 j = nI x) ∧ (∀ j, 16 * sB B ≤ j → j < 160 → aI wc 35 j = 0) ∧ ∀ v, v < 8 → aI wm 30 v = aI wc 36 v ∧ ∃ x, x ≤ n ∧ aI wc 36 v = nI x)
/-- the class's scratch -/
def RS (t : Nat) (wc : Wd) : Prop := (∃ st, st ≤ t ∧ sI wc 4 = nI st ∧ ∀ j, j < 1000 → ∃ c, c ≤ st ∧ aI wc 26 j = nI c) ∧ ∀ j, j < 1000 → aI wc 38 j = 0
def II (t : Nat) (wc wm : Wd) : Prop := ∃ (B : Bk) (R : Ru), GB B ∧ GR B R ∧ RB B wc ∧ RM B wm ∧ RRc R wc ∧ RRm R wm ∧ RU wc wm ∧ RP B wc wm ∧ RT B wc wm ∧ RS t wc
/-- a bank that has grown -/
def Ext (B B2 : Bk) : Prop := nB B ≤ nB B2 ∧ sB B2 = sB B ∧ arB B2 = arB B ∧ wtB B2 = wtB B ∧ ∀ t, t < nB B → hB B2 t = hB B t ∧ aB B2 t = aB B t ∧ bB B2 t = bB B t ∧ szB B2 t = szB B t ∧ wgB B2 t = wgB B t ∧ ctB B2 t = ctB B t
theorem Ext.rf (B : Bk) : Ext B B := ⟨Nat.le_refl _, rfl, rfl, rfl, fun _ _ => ⟨rfl, rfl, rfl, rfl, rfl, rfl⟩⟩
theorem Ext.tr {B B2 B3 : Bk} (h : Ext B B2) (g : Ext B2 B3) : Ext B B3 := ⟨Nat.le_trans h.1 g.1, g.2.1.trans h.2.1, g.2.2.1.trans h.2.2.1, g.2.2.2.1.trans h.2.2.2.1, fun t ht => by
  have a := h.2.2.2.2 t ht
  have b := g.2.2.2.2 t (Nat.lt_of_lt_of_le ht h.1)
  exact ⟨b.1.trans a.1, b.2.1.trans a.2.1, b.2.2.1.trans a.2.2.1, b.2.2.2.1.trans a.2.2.2.1, b.2.2.2.2.1.trans a.2.2.2.2.1, b.2.2.2.2.2.trans a.2.2.2.2.2⟩⟩
theorem Ext.push {B : Bk} {h a b : Nat} : Ext B (pushB B h a b) := ⟨Nat.le_succ _, rfl, rfl, rfl, fun t ht => ⟨fu_n (by omega), fu_n (by omega), fu_n (by omega), fu_n (by omega), fu_n (by omega), fu_n (by omega)⟩⟩
theorem GR.ext {B B2 : Bk} {R : Ru} (h : GR B R) (e : Ext B B2) : GR B2 R := ⟨h.1, fun r hr => by
  obtain ⟨a1, a2, a3, a4, a5, a6, a7⟩ := h.2 r hr
  have x1 := e.2.2.2.2 _ a1
  have x2 := e.2.2.2.2 _ a2
  refine ⟨Nat.lt_of_lt_of_le a1 e.1, Nat.lt_of_lt_of_le a2 e.1, by rw [x1.1]; exact a3, by rw [x1.2.2.2.1]; exact a4, by rw [x2.2.2.2.1]; exact a5, fun v h1 h2 => by rw [x1.2.2.2.2.2]; exact a6 v h1 h2, fun v h1 => by rw [x1.2.2.2.2.2, x2.2.2.2.2.2]; exact a7 v h1⟩⟩
theorem RRc.fr {R : Ru} {w w2 : Wd} (h : RRc R w) (f : FrB w w2) : RRc R w2 := ⟨by rw [f.1 2 (by omega)]; exact h.1, fun r hr => by rw [(f.2.1 23 (by omega)).1, (f.2.1 24 (by omega)).1, (f.2.1 25 (by omega)).1]; exact h.2 r hr⟩
theorem RRm.fr {R : Ru} {w w2 : Wd} (h : RRm R w) (f : FrM w w2) : RRm R w2 := ⟨by rw [f.1 3 (by omega)]; exact h.1, fun r hr => by rw [(f.2.1 9 (by omega)).1, (f.2.1 10 (by omega)).1, (f.2.1 11 (by omega)).1]; exact h.2 r hr⟩
theorem RU.fr {wc wm c2 m2 : Wd} (h : RU wc wm) (f : FrB wc c2) (g : FrM wm m2) : RU c2 m2 := by
  obtain ⟨k, h1, h2, h3, h4⟩ := h
  exact ⟨k, h1, by rw [f.1 13 (by omega)]; exact h2, by rw [g.1 8 (by omega)]; exact h3, fun i hi => by rw [(f.2.1 41 (by omega)).1, (f.2.1 42 (by omega)).2, (g.2.1 15 (by omega)).1, (g.2.1 16 (by omega)).2]; exact h4 i hi⟩
theorem RP.fr {B B2 : Bk} {wc wm c2 m2 : Wd} (h : RP B wc wm) (e : Ext B B2) (f : FrB wc c2) (g : FrM wm m2) : RP B2 c2 m2 := by
  obtain ⟨k, st, fs, h1, h2, h3, h4, h5, h6, h7⟩ := h
  refine ⟨k, st, fs, h1, h2, by rw [f.1 15 (by omega)]; exact h3, by rw [f.1 17 (by omega)]; exact h4, by rw [f.1 18 (by omega)]; exact h5, by rw [g.1 13 (by omega)]; exact h6, fun i hi => ?_⟩
  rw [(f.2.1 45 (by omega)).1, (f.2.1 46 (by omega)).1, (f.2.1 47 (by omega)).2, (f.2.1 48 (by omega)).1, (f.2.1 49 (by omega)).1, (g.2.1 22 (by omega)).1, (g.2.1 23 (by omega)).1, (g.2.1 24 (by omega)).2, (g.2.1 25 (by omega)).1, (g.2.1 26 (by omega)).1]
  obtain ⟨a1, a2, a3, a4, a5, ⟨x, x1, x2⟩, ⟨y, y1, y2⟩⟩ := h7 i hi
  exact ⟨a1, a2, a3, a4, a5, ⟨x, Nat.lt_of_lt_of_le x1 e.1, x2⟩, ⟨y, Nat.lt_of_lt_of_le y1 e.1, y2⟩⟩
theorem RT.fr {B B2 : Bk} {wc wm c2 m2 : Wd} (h : RT B wc wm) (e : sB B2 = sB B) (f : FrB wc c2) (g : FrM wm m2) : RT B2 c2 m2 := by
  obtain ⟨n, h1, h2, h3, h4, h5, h6, h7⟩ := h
  refine ⟨n, h1, by rw [f.1 10 (by omega)]; exact h2, by rw [g.1 15 (by omega)]; exact h3, by rw [f.1 11 (by omega)]; exact h4, by rw [f.1 11 (by omega), g.1 16 (by omega)]; exact h5, fun hr v hv => ?_, fun hn => ?_⟩
  · rw [f.1 11 (by omega)] at hr
    rw [(f.2.1 37 (by omega)).1, (g.2.1 33 (by omega)).1]
    exact h6 hr v hv
  · rw [(f.2.1 35 (by omega)).1, (f.2.1 36 (by omega)).1, (g.2.1 29 (by omega)).1, (g.2.1 30 (by omega)).1, e]
    exact h7 hn
theorem RS.fr {t : Nat} {w w2 : Wd} (h : RS t w) (f : FrB w w2) : RS t w2 := by
  obtain ⟨⟨st, h1, h2, h3⟩, h4⟩ := h
  exact ⟨⟨st, h1, by rw [f.1 4 (by omega)]; exact h2, fun j hj => by rw [(f.2.1 26 (by omega)).1]; exact h3 j hj⟩, fun j hj => by rw [(f.2.1 38 (by omega)).1]; exact h4 j hj⟩
theorem RS.up {t : Nat} {w : Wd} (h : RS t w) : RS (t + 1) w := by
  obtain ⟨⟨st, h1, h2⟩, h4⟩ := h
  exact ⟨⟨st, by omega, h2⟩, h4⟩
theorem II.up {t : Nat} {wc wm : Wd} (h : II t wc wm) : II (t + 1) wc wm := by
  obtain ⟨B, R, h1, h2, h3, h4, h5, h6, h7, h8, h9, h10⟩ := h
  exact ⟨B, R, h1, h2, h3, h4, h5, h6, h7, h8, h9, h10.up⟩
/-- after work on the banks alone -/
theorem II.bank {t : Nat} {B B2 : Bk} {R : Ru} {wc wm c2 m2 : Wd} (h : GR B R ∧ RRc R wc ∧ RRm R wm ∧ RU wc wm ∧ RP B wc wm ∧ RT B wc wm ∧ RS t wc) (e : Ext B B2) (G : GB B2) (rc : RB B2 c2) (rm : RM B2 m2) (f : FrB wc c2) (g : FrM wm m2) : II (t + 1) c2 m2 :=
  ⟨B2, R, G, h.1.ext e, rc, rm, h.2.1.fr f, h.2.2.1.fr g, h.2.2.2.1.fr f g, h.2.2.2.2.1.fr e f g, h.2.2.2.2.2.1.fr e.2.1 f g, (h.2.2.2.2.2.2.fr f).up⟩
/-- thrown is set: nothing else changes -/
theorem RM.th {B : Bk} {w : Wd} {x : Int32} (h : RM B w) : RM B (pI w 0 x) := h
theorem II.th {t : Nat} {wc wm : Wd} {x : Int32} (h : II t wc wm) : II t wc (pI wm 0 x) := h
/-! numbers in a range -/
theorem iw_eq {N d : Nat} {w : Wd} {x y : Int32} : eX10_isWithin N (d + 1) w x y = some (w, if x < 0 then 0 else if y ≤ x then 0 else 1) := by
  show bX10_isWithin_0 N d w x y = _
  unfold bX10_isWithin_0 bX10_isWithin_13 bX10_isWithin_14 c_bo
  split
  · rfl
  · split <;> rfl
/-- a number below n, or another one -/
theorem iw_cases {n : Nat} (hn : n < 2 ^ 31) (x : Int32) : (∃ i, i < n ∧ x = nI i ∧ (if x < 0 then (0 : Int32) else if nI n ≤ x then 0 else 1) = 1) ∨ ((∀ i, i < n → x ≠ nI i) ∧ (if x < 0 then (0 : Int32) else if nI n ≤ x then 0 else 1) = 0) := by
  rcases pk_ix x hn with q | q | ⟨i, hi, e⟩
  · refine Or.inr ⟨fun i hi e => ?_, by rw [if_pos q]⟩
    rw [e] at q
    exact nI_pos (by omega) q
  · refine Or.inr ⟨fun i hi e => ?_, ?_⟩
    · rw [e, nI_leI (by omega) (by omega)] at q
      omega
    · by_cases q0 : x < 0
      · rw [if_pos q0]
      · rw [if_neg q0, if_pos q]
  · refine Or.inl ⟨i, hi, e, ?_⟩
    rw [e, if_neg (nI_pos (by omega)), if_neg (fun z => by rw [nI_leI (by omega) (by omega)] at z; omega)]
theorem cIsTerm {N d : Nat} {B : Bk} {w : Wd} {x : Int32} (R : RB B w) : eX10_isTerm N (d + 2) w x = some (w, if x < 0 then 0 else if nI (nB B) ≤ x then 0 else 1) := by
  show bX10_isTerm_0 N (d + 1) w x = _
  unfold bX10_isTerm_0 c_bo
  rw [iw_eq, cl_s, R.2.1]
  split
  · rfl
  · split <;> rfl
theorem cIsRule {N d : Nat} {R : Ru} {w : Wd} {x : Int32} (h : RRc R w) : eX10_isRule N (d + 2) w x = some (w, if x < 0 then 0 else if nI R.1 ≤ x then 0 else 1) := by
  show bX10_isRule_0 N (d + 1) w x = _
  unfold bX10_isRule_0 c_bo
  rw [iw_eq, cl_s, h.1]
  split
  · rfl
  · split <;> rfl
theorem in_eq {N d : Nat} {w : Wd} {x a b : Int64} : eX11_in N (d + 1) w x a b = some (w, if x < a then 0 else if b < x then 0 else 1) := by
  show bX11_in_0 N d w x a b = _
  unfold bX11_in_0 bX11_in_17 bX11_in_18 c_bo
  by_cases q : x < a
  · rw [if_pos ((lg_cmp_lt x a).mpr q), if_pos q]; rfl
  · rw [if_neg (fun z => q ((lg_cmp_lt x a).mp z)), if_neg q]
    by_cases q2 : b < x
    · rw [if_pos ((lg_cmp_gt x b).mpr q2), if_pos q2]; rfl
    · rw [if_neg (fun z => q2 ((lg_cmp_gt x b).mp z)), if_neg q2]; rfl
theorem i2l_lt (x y : Int32) : x.toInt64 < y.toInt64 ↔ x < y := by
  rw [Int64.lt_iff_toInt_lt, Int32.lt_iff_toInt_lt, Int32.toInt_toInt64, Int32.toInt_toInt64]
/-- in(x, 0, n - 1) is isWithin(x, n) -/
theorem in_n {N d n : Nat} {w : Wd} {x : Int32} (hn : n < 2 ^ 30) : eX11_in N (d + 1) w x.toInt64 0 (nI n - 1).toInt64 = some (w, if x < 0 then 0 else if nI n ≤ x then 0 else 1) := by
  rw [in_eq]
  have h0 : (x.toInt64 < 0) ↔ x < 0 := i2l_lt x 0
  have h1 : ((nI n - 1).toInt64 < x.toInt64) ↔ nI n ≤ x := by
    rw [i2l_lt, Int32.lt_iff_toInt_lt, Int32.le_iff_toInt_le, show (1 : Int32) = nI 1 from rfl, pk_sub_toInt (by omega) (by omega), nI_toInt (by omega)]
    omega
  simp only [h0, h1]
theorem mIsTerm {N d : Nat} {B : Bk} {w : Wd} {x : Int32} (G : GB B) (R : RM B w) : eX11_isTerm N (d + 2) w x = some (w, if x < 0 then 0 else if nI (nB B) ≤ x then 0 else 1) := by
  show bX11_isTerm_0 N (d + 1) w x = _
  have := G.1
  unfold bX11_isTerm_0 c_bo
  rw [R.2.1, in_n (by omega), cl_s]
  split
  · rfl
  · split <;> rfl
theorem mIsRule {N d : Nat} {R : Ru} {w : Wd} {x : Int32} (hr : R.1 ≤ 16) (h : RRm R w) : eX11_isRule N (d + 2) w x = some (w, if x < 0 then 0 else if nI R.1 ≤ x then 0 else 1) := by
  show bX11_isRule_0 N (d + 1) w x = _
  unfold bX11_isRule_0 c_bo
  rw [h.1, in_n (by omega), cl_s]
  split
  · rfl
  · split <;> rfl
theorem mIsVar {N d : Nat} {B : Bk} {w : Wd} {t : Nat} (G : GB B) (R : RM B w) (ht : t < nB B) : eX11_isVariable N (d + 1) w (nI t) = some (w, if hB B t < 10 then 0 else 1) := by
  show bX11_isVariable_0 N d w (nI t) = _
  have g1 := G.1
  have hal := G.a_le ht
  unfold bX11_isVariable_0 bX11_isVariable_14 c_bo
  rw [ld_n (by omega) (by omega), (R.2.2.2.2.1 t ht).1]
  by_cases q : hB B t < 10
  · rw [if_pos ((sg_all _ hal.2.2).1.mpr q), if_pos q]; rfl
  · rw [if_neg (fun z => q ((sg_all _ hal.2.2).1.mp z)), if_neg q]; rfl
theorem cIsVar {N d : Nat} {B : Bk} {w : Wd} {t : Nat} (G : GB B) (R : RB B w) (ht : t < nB B) : eX8_isVariable N (d + 1) w (nI t) = some (w, if hB B t < 10 then 0 else 1) := by
  show bX8_isVariable_0 N d w (nI t) = _
  have g1 := G.1
  have hal := G.a_le ht
  unfold bX8_isVariable_0 bX8_isVariable_16 c_bo
  rw [ld_n (by omega) (by omega), (R.2.2.2.1 t ht).1]
  by_cases q : hB B t < 10
  · rw [if_pos (by rw [show (10 : Int32) = nI 10 from rfl, nI_ltI (by omega) (by omega)]; exact q), if_pos q]; rfl
  · rw [if_neg (fun z => by rw [show (10 : Int32) = nI 10 from rfl, nI_ltI (by omega) (by omega)] at z; exact q z), if_neg q]; rfl
theorem mVarOf {N d : Nat} {B : Bk} {w : Wd} {t : Nat} (G : GB B) (R : RM B w) (ht : t < nB B) (hv : 10 ≤ hB B t) : eX11_variableOf N (d + 1) w (nI t) = some (w, nI (hB B t - 10)) := by
  show bX11_variableOf_0 N d w (nI t) = _
  have g1 := G.1
  unfold bX11_variableOf_0
  rw [ld_n (by omega) (by omega), (R.2.2.2.2.1 t ht).1, (sg_all _ (G.a_le ht).2.2).2.2.1 hv]
theorem mParts {N d : Nat} {B : Bk} {w : Wd} {t : Nat} (G : GB B) (R : RM B w) (ht : t < nB B) : eX11_parts N (d + 2) w (nI t) = some (w, nI (npB B t)) := by
  show bX11_parts_0 N (d + 1) w (nI t) = _
  have g1 := G.1
  have g2 := G.2.1
  have hal := G.a_le ht
  unfold bX11_parts_0 bX11_parts_23
  rw [mIsVar G R ht, cl_s]
  by_cases q : hB B t < 10
  · rw [if_pos q, if_pos rfl, ld_n (by omega) (by omega), (R.2.2.2.2.1 t ht).1, (sg_all _ hal.2.2).2.1 q, ld_n q (by omega)]
    have hs : hB B t < sB B := by rcases (G.2.2.2.2.1 t ht).1 with z | z <;> omega
    rw [(R.2.2.2.1 _ hs).1]
    rfl
  · rw [if_neg q, if_neg (by decide)]
    have : npB B t = 0 := (G.2.2.2.1 _ (by omega)).1
    rw [this]
    rfl
theorem mPartOf0 {N d : Nat} {B : Bk} {w : Wd} {t : Nat} (G : GB B) (R : RM B w) (ht : t < nB B) : eX11_partOf N (d + 1) w (nI t) 0 = some (w, eN (aB B t)) := by
  show bX11_partOf_0 N d w (nI t) 0 = _
  have g1 := G.1
  unfold bX11_partOf_0 bX11_partOf_19
  rw [if_pos rfl, ld_n (by omega) (by omega), (R.2.2.2.2.1 t ht).2.1]
theorem mPartOf1 {N d : Nat} {B : Bk} {w : Wd} {t : Nat} {i : Int32} (hi : ¬ i = 0) (G : GB B) (R : RM B w) (ht : t < nB B) : eX11_partOf N (d + 1) w (nI t) i = some (w, eN (bB B t)) := by
  show bX11_partOf_0 N d w (nI t) i = _
  have g1 := G.1
  unfold bX11_partOf_0 bX11_partOf_19
  rw [if_neg hi, ld_n (by omega) (by omega), (R.2.2.2.2.1 t ht).2.2.1]
