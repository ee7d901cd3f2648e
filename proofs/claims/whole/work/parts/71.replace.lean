/-! the class replaces -/
abbrev rpS : Nat → Bool := fun k => k == 1 || k == 14
abbrev rpA : Nat → Bool := fun k => (decide (13 < k) && decide (k < 23)) || k == 43 || k == 44
theorem FrB.rp {w w2 : Wd} (h : FrB w w2) : Fr rpS rpA w w2 := ⟨fun k hk => h.1 k (fun z => by rw [z] at hk; cases hk), fun k hk => h.2.1 k (by
  simp only [Bool.or_eq_false_iff, Bool.and_eq_false_iff, decide_eq_false_iff_not] at hk
  omega)⟩
theorem Stk.len {w : Wd} : ∀ l D u, Stk w D l u → sI w 3 = nI (D + l.length + 1) ∧ ∀ j, j ≤ l.length → aI w 27 (D + j) = nI (ndW l u j) := by
  intro l
  induction l with
  | nil =>
    intro D u h
    refine ⟨h.1, fun j hj => ?_⟩
    have : j = 0 := by simpa using hj
    rw [this]
    exact h.2
  | cons x l ih =>
    intro D u h
    obtain ⟨h1, h3⟩ := h
    obtain ⟨i1, i2⟩ := ih (D + 1) u h3
    refine ⟨by rw [i1]; congr 1; simp; omega, fun j hj => ?_⟩
    cases j with
    | zero => exact h1
    | succ j =>
      have e : ndW (x :: l) u (j + 1) = ndW l u j := by unfold ndW; rw [List.getElem?_cons_succ]
      rw [show D + (j + 1) = D + 1 + j by omega, e]
      exact i2 j (by simp at hj; omega)
/-- whether a place is in the first part -/
theorem cInF {Bs B : Bk} (Gs : GB Bs) (G : GB B) (e : Ext Bs B) {N d k x y s : Nat} {w : Wd} (R : RB B w) (hk : k + 1 < 1000) (hx : x < nB Bs) (hy : y < 2000) (h1 : aI w 27 k = nI x) (h2 : aI w 27 (k + 1) = nI y) (hs : (s = 0 ∧ aB Bs x = y) ∨ (s = 1 ∧ aB Bs x ≠ y)) : eX3_isInFirst N (d + 1) w (nI k) = some (w, if s = 0 then 1 else 0) := by
  have g1 := G.1
  have en := e.1
  have hal := Gs.a_le hx
  have hr := (R.2.2.2.1 x (by omega)).2.1
  rw [(e.2.2.2.2 x hx).2.1] at hr
  show bX3_isInFirst_0 N d w (nI k) = _
  unfold bX3_isInFirst_0 bX3_isInFirst_30
  rw [ld_n (by omega) (by omega), h1, ld_n (by omega) (by omega), hr, nI_1, ld_n hk (by omega), h2, ← eN_n hy]
  rcases hs with ⟨q1, q2⟩ | ⟨q1, q2⟩
  · rw [if_pos (by rw [q2]), if_pos q1, bo01 (Or.inr rfl)]
  · rw [if_neg (fun z => q2 ((eN_eq hal.1 (by omega)).mp z)), if_neg (by omega), bo01 (Or.inl rfl)]
theorem cPlaceL {N d len : Nat} {w : Wd} {x1 x2 : Int32} (h3 : sI w 3 = nI (len + 1)) (hlen : len < 1000) : ∀ l k n p, k + l.length = len → l.length < n → (∀ j x, l[j]? = some x → (x.2 = 0 ∨ x.2 = 1) ∧ eX3_isInFirst N (d + 1) w (nI (k + j)) = some (w, if x.2 = 0 then 1 else 0)) → fX3_replace_20 N (d + 1) n w x1 x2 p (nI k) = fX3_replace_64 N (d + 1) N w x1 x2 (plc p l) (nI len - 1) := by
  intro l
  induction l with
  | nil =>
    intro k n p h1 h2 h
    obtain ⟨n, rfl⟩ : ∃ m, n = m + 1 := ⟨n - 1, by simp at h2; omega⟩
    show bX3_replace_20 N (d + 1) (fX3_replace_20 N (d + 1) n) w x1 x2 p (nI k) = _
    unfold bX3_replace_20
    simp only [c_nm]
    have hk : k = len := by simpa using h1
    rw [h3, nI_pred, if_pos ((nI_leI (by omega) (by omega)).mpr (by omega))]
    have : nI (len + 1) - 2 = nI len - 1 := by
      rw [show (2 : Int32) = 1 + 1 by decide, ← Int32.sub_sub, nI_pred]
    rw [this]
    rfl
  | cons x l ih =>
    intro k n p h1 h2 h
    simp only [List.length_cons] at h1 h2
    obtain ⟨n, rfl⟩ : ∃ m, n = m + 1 := ⟨n - 1, by omega⟩
    show bX3_replace_20 N (d + 1) (fX3_replace_20 N (d + 1) n) w x1 x2 p (nI k) = _
    unfold bX3_replace_20 bX3_replace_46
    simp only [c_nm]
    obtain ⟨y1, y2⟩ := h 0 x rfl
    have y3 : eX3_isInFirst N (d + 1) w (nI k) = some (w, if x.2 = 0 then 1 else 0) := y2
    rw [h3, nI_pred, if_neg (fun z => by rw [nI_leI (by omega) (by omega)] at z; omega), y3, cl_s]
    have go := ih (k + 1) n (blw p (nI x.2)) (by omega) (by omega) (fun j z hz => by
      rw [show k + 1 + j = k + (j + 1) by omega]
      exact h (j + 1) z (by simpa using hz))
    have e : plc p (x :: l) = plc (blw p (nI x.2)) l := rfl
    rw [e, ← go]
    by_cases q : x.2 = 0
    · rw [if_pos q, if_neg i10, cPlace, cl_s, nI_1, q]
      rfl
    · have q1 : x.2 = 1 := y1.resolve_left q
      rw [if_neg q, if_pos i00, cPlace, cl_s, nI_1, q1]
      rfl
theorem stepM_ok {Bs : Bk} (Gs : GB Bs) {x : Nat × Nat} {B B2 : Bk} {c y : Nat} (G : GB B) (e : Ext Bs B) (hc : c < nB B) (hx : x.1 < nB Bs ∧ (x.2 = 0 ∧ 1 ≤ npB Bs x.1 ∨ x.2 = 1 ∧ 2 ≤ npB Bs x.1)) : VN B (hB Bs x.1) (if x.2 = 0 then c else aB Bs x.1) (if x.2 = 0 then bB Bs x.1 else c) := by
  have hnp := Gs.np hx.1
  have en := e.1
  refine VN.of Gs e hx.1 ?_ ?_
  · by_cases n1 : 1 ≤ npB Bs x.1
    · rw [if_pos n1]
      split
      · exact hc
      · have := hnp.2.2.1 n1; omega
    · rcases hx.2 with z | z <;> omega
  · by_cases n2 : 2 ≤ npB Bs x.1
    · rw [if_pos n2]
      split
      · have := hnp.2.2.2.1 n2; omega
      · exact hc
    · rw [if_neg n2]
      rcases hx.2 with z | z
      · rw [if_pos z.1]; exact hnp.2.2.2.2.2 n2
      · omega
theorem cAdd {N d c : Nat} {w : Wd} {x : Int32} {p : Int64} (h : sI w 14 = nI c) (hc : c < 100) : eX6_add N (d + 1) w x p = some (pI (pB (pA w 43 (upd (aI w 43) c x)) 44 (vp_updL (aL w 44) c p)) 14 (nI (c + 1))) := by
  show bX6_add_0 N d w x p = _
  unfold bX6_add_0 bX6_add_39
  simp only [c_pi]
  rw [h, if_neg (show ¬ (100 : Int32) ≤ nI c from fun z => by rw [show (100 : Int32) = nI 100 from rfl, nI_leI (by omega) (by omega)] at z; omega), st_n (by omega) (by omega)]
  have z1 : ∀ f, sI (pA w 43 f) 14 = nI c := fun f => h
  rw [z1, sl_n (by omega) (by omega)]
  have z2 : ∀ f g, sI (pB (pA w 43 f) 44 g) 14 = nI c := fun f g => h
  rw [z2, nI_1]
  rfl
/-- what a step leaves: the rule and the place are noted -/
def Nt (w w2 : Wd) (c : Nat) (x : Int32) (p : Int64) : Prop := sI w2 14 = nI (c + 1) ∧ (∀ j, aI w2 43 j = if j = c then x else aI w 43 j) ∧ ∀ j, aL w2 44 j = if j = c then p else aL w 44 j
theorem cRebL {Bs : Bk} (Gs : GB Bs) {N d c : Nat} {x1 : Int32} {p : Int64} {g : Nat → Nat × Nat} {h9 : Nat → Nat} (hN : 2000000 ≤ N) (hc : c < 100) : ∀ k n B w y, GB B → Ext Bs B → RB B w → y < nB B → k < n → k < 1000 → sI w 14 = nI c → (∀ j, j < k → aI w 27 j = nI (g j).1 ∧ (aI w 27 (j + 1) = nI (h9 j) ∧ h9 j < 2000 ∧ (((g j).2 = 0 ∧ aB Bs (g j).1 = h9 j) ∨ ((g j).2 = 1 ∧ aB Bs (g j).1 ≠ h9 j))) ∧ (g j).1 < nB Bs ∧ ((g j).2 = 0 ∧ 1 ≤ npB Bs (g j).1 ∨ (g j).2 = 1 ∧ 2 ≤ npB Bs (g j).1)) →
    (∀ B2 z, rebN Bs g k (some (B, y)) = some (B2, z) → ∃ w2, fX3_replace_64 N (d + 2) n w x1 (nI y) p (nI k - 1) = some (w2, nI z) ∧ RB B2 w2 ∧ GB B2 ∧ Ext B B2 ∧ z < nB B2 ∧ Fr rpS rpA w w2 ∧ Nt w w2 c x1 p) ∧
    (rebN Bs g k (some (B, y)) = none → ∃ w2 B2, fX3_replace_64 N (d + 2) n w x1 (nI y) p (nI k - 1) = some (w2, -4) ∧ RB B2 w2 ∧ GB B2 ∧ Ext B B2 ∧ Fr rpS rpA w w2) := by
  have gs1 := Gs.1
  intro k
  induction k with
  | zero =>
    intro n B w y G e R hy hn _ h14 _
    obtain ⟨n, rfl⟩ : ∃ m, n = m + 1 := ⟨n - 1, by omega⟩
    have key : fX3_replace_64 N (d + 2) (n + 1) w x1 (nI y) p (nI 0 - 1) = bX3_replace_64 N (d + 2) (fX3_replace_64 N (d + 2) n) w x1 (nI y) p (nI 0 - 1) := rfl
    rw [key]
    unfold bX3_replace_64 bX3_replace_159
    rw [if_pos (show nI 0 - 1 < (0 : Int32) by decide), cAdd h14 hc, cv_s]
    refine ⟨fun B2 z h => ?_, fun h => (by cases h)⟩
    cases h
    refine ⟨_, rfl, R, G, Ext.rf _, hy, (((Fr.rf w).pa rfl).pb rfl).pi rfl, rfl, fun j => ?_, fun j => ?_⟩
    · show upd (aI w 43) c x1 j = _
      by_cases e : j = c
      · rw [if_pos e, e, upd_s]
      · rw [if_neg e, upd_n e]
    · show vp_updL (aL w 44) c p j = _
      by_cases e : j = c
      · rw [if_pos e, e, updL_s]
      · rw [if_neg e, updL_n e]
  | succ k ih =>
    intro n B w y G e R hy hn hk h14 hg
    have g1 := G.1
    have en := e.1
    obtain ⟨n, rfl⟩ : ∃ m, n = m + 1 := ⟨n - 1, by omega⟩
    have key : fX3_replace_64 N (d + 2) (n + 1) w x1 (nI y) p (nI (k + 1) - 1) = bX3_replace_64 N (d + 2) (fX3_replace_64 N (d + 2) n) w x1 (nI y) p (nI (k + 1) - 1) := rfl
    obtain ⟨q1, q2, q3, q4⟩ := hg k (by omega)
    have ek := e.2.2.2.2 _ q3
    have hr := R.2.2.2.1 (g k).1 (by omega)
    rw [ek.1, ek.2.1, ek.2.2.1] at hr
    have hvn := stepM_ok Gs (x := g k) (B2 := B) (y := 0) G e hy ⟨q3, q4⟩
    have em : nI k + (-1) = nI k - 1 := by rw [Int32.sub_eq_add_neg]
    have it : bX3_replace_64 N (d + 2) (fX3_replace_64 N (d + 2) n) w x1 (nI y) p (nI (k + 1) - 1) = c_cl (eX8_make N (d + 2) w (nI (hB Bs (g k).1)) (eN (if (g k).2 = 0 then y else aB Bs (g k).1)) (eN (if (g k).2 = 0 then bB Bs (g k).1 else y))) fun w10 v11 => fX3_replace_64 N (d + 2) n w10 x1 v11 p (nI k - 1) := by
      have inF : eX3_isInFirst N (d + 2) w (nI k) = some (w, if (g k).2 = 0 then 1 else 0) := cInF (d := d + 1) Gs G e R (by omega) q3 q2.2.1 q1 q2.1 q2.2.2
      unfold bX3_replace_64 bX3_replace_152
      simp only [c_nm]
      rw [nI_pred, if_neg (nI_pos (by omega)), if_neg (nI_m4 (by omega)), ld_n (by omega) (by omega), q1, inF, cl_s, em]
      rcases q4 with ⟨z1, z2⟩ | ⟨z1, z2⟩
      · simp only [z1, if_true]
        rw [if_neg i10, ld_n (by omega) (by omega), hr.1, ld_n (by omega) (by omega), hr.2.2.1, eN_n (show y < 2000 by omega)]
      · simp only [z1, if_neg (show ¬ (1 : Nat) = 0 by decide), if_true]
        rw [ld_n (by omega) (by omega), hr.1, ld_n (by omega) (by omega), hr.2.1, eN_n (show y < 2000 by omega)]
    have hre : rebN Bs g (k + 1) (some (B, y)) = rebN Bs g k (mkB B (hB Bs (g k).1) (if (g k).2 = 0 then y else aB Bs (g k).1) (if (g k).2 = 0 then bB Bs (g k).1 else y)) := rfl
    rw [key, it, hre]
    obtain ⟨m1, m2⟩ := cMk (N := N) (d := d) G R hN hvn
    cases hm : mkB B (hB Bs (g k).1) (if (g k).2 = 0 then y else aB Bs (g k).1) (if (g k).2 = 0 then bB Bs (g k).1 else y) with
    | none =>
      rw [m2 hm, cl_s]
      have hno : ∀ k, rebN Bs g k none = none := fun k => by
        induction k with
        | zero => rfl
        | succ k ihk => exact ihk
      obtain ⟨n, rfl⟩ : ∃ m, n = m + 1 := ⟨n - 1, by omega⟩
      have stop : fX3_replace_64 N (d + 2) (n + 1) w x1 (-4) p (nI k - 1) = bX3_replace_159 N (d + 2) w x1 (-4) p := by
        show bX3_replace_64 N (d + 2) (fX3_replace_64 N (d + 2) n) w x1 (-4) p (nI k - 1) = _
        unfold bX3_replace_64
        rw [if_pos rfl]
        split <;> rfl
      refine ⟨fun B2 z h => ?_, fun _ => ?_⟩
      · rw [hno] at h
        cases h
      · rw [stop]
        unfold bX3_replace_159
        rw [cAdd h14 hc, cv_s]
        exact ⟨_, B, rfl, R, G, Ext.rf B, (((Fr.rf w).pa rfl).pb rfl).pi rfl⟩
    | some z =>
      obtain ⟨B3, z⟩ := z
      obtain ⟨w2, a1, a2, a3⟩ := m1 B3 z hm
      obtain ⟨b1, b2, b3, _⟩ := mkB_ok G hvn hm
      rw [a1, cl_s]
      obtain ⟨i1, i2⟩ := ih n B3 w2 z b1 (e.tr b2) a2 b3 (by omega) (by omega) (by rw [a3.1 14 (by omega)]; exact h14) (fun j hj => by
        rw [(a3.2.1 27 (by omega)).1]
        exact hg j (by omega))
      refine ⟨fun B2 y2 h => ?_, fun h => ?_⟩
      · obtain ⟨w4, c1, c2, c3, c4, c5, c6, c7, c8, c9⟩ := i1 B2 y2 h
        refine ⟨w4, c1, c2, c3, b2.tr c4, c5, a3.rp.tr c6, c7, fun j => ?_, fun j => ?_⟩
        · rw [c8 j, (a3.2.1 43 (by omega)).1]
        · rw [c9 j, (a3.2.1 44 (by omega)).2]
      · obtain ⟨w4, B4, c1, c2, c3, c4, c5⟩ := i2 h
        exact ⟨w4, B4, c1, c2, c3, b2.tr c4, a3.rp.tr c5⟩
theorem cReplace {B : Bk} {R : Ru} (G : GB B) (gr : GR B R) {N d r u c : Nat} {l : List (Nat × Nat)} {σ : Nat → Nat} {w : Wd} (hN : 2000000 ≤ N) (hr : r < R.1) (hu : u < nB B) (hc : c < 100) (hl : l.length < 1000) (lv : LV B l) (hwy : Way B l u) (hm : mt B (R.2.1 r) u = some σ) (rb : RB B w) (rc : RRc R w) (h14 : sI w 14 = nI c) (hs : Stk w 0 l u) (h29 : ∀ v, v < 4 → aI w 29 v = eN (σ v)) :
    (∀ B2 z, reb B l (fl B σ 30 B (R.2.2.1 r)) = some (B2, z) → ∃ w2, eX3_replace N (d + 33) w (nI r) = some (w2, nI z) ∧ RB B2 w2 ∧ GB B2 ∧ Ext B B2 ∧ z < nB B2 ∧ Fr rpS rpA w w2 ∧ Nt w w2 c (nI r) (plc 1 l)) ∧
    (reb B l (fl B σ 30 B (R.2.2.1 r)) = none → ∃ w2 B2, eX3_replace N (d + 33) w (nI r) = some (w2, -4) ∧ RB B2 w2 ∧ GB B2 ∧ Ext B B2 ∧ Fr rpS rpA w w2) := by
  have g1 := G.1
  have gr1 := gr.1
  obtain ⟨a1, a2, a3, a4, a5, a6, a7⟩ := gr.2 r hr
  obtain ⟨s1, s2⟩ := Stk.len l 0 u hs
  rw [Nat.zero_add] at s1
  have vok := (mt_ok G gr hr hu hm).2
  have key : eX3_replace N (d + 33) w (nI r) = bX3_replace_0 N (d + 32) w (nI r) := rfl
  rw [key]
  unfold bX3_replace_0
  rw [ld_n (by omega) (by omega), (rc.2 r hr).2.1]
  have cR : ∀ v, 4 ≤ v → v < 8 → ctB B (R.2.2.1 r) v = 0 := fun v h4 h8 => a7 v h8 (a6 v h4 h8)
  obtain ⟨i1, i2⟩ := cInst G (N := N) (σ := σ) hN 30 d (R.2.2.1 r) 1 B w G (Ext.rf B) rb a2 a5 (by omega) (by omega) cR h29 vok
  -- a function of the list
  have hgx : ∃ g : Nat → Nat × Nat, ∀ j, j < l.length → l[j]? = some (g j) := ⟨fun j => (l[j]?).getD (0, 0), fun j hj => by
    show l[j]? = some ((l[j]?).getD (0, 0))
    rw [List.getElem?_eq_getElem hj]
    rfl⟩
  obtain ⟨g, hg⟩ := hgx
  have hno : ∀ l, reb B l none = none := fun l => by
    induction l with
    | nil => rfl
    | cons x l ih => show stepM B x (reb B l none) = none; rw [ih]; rfl
  have ndl : ∀ j, ndW l u j < nB B := fun j => by
    unfold ndW
    cases hj : l[j]? with
    | none => exact hu
    | some x => exact (lv x (List.mem_of_getElem? hj)).1
  have nde : ∀ j x, l[j]? = some x → ndW l u j = x.1 := fun j x hx => by
    unfold ndW
    rw [hx]
    rfl
  -- behind the instance
  have go : ∀ w1 x B1, GB B1 → Ext B B1 → RB B1 w1 → Fr rpS rpA w w1 → fX3_replace_20 N (d + 32) N w1 (nI r) x 1 (nI 0) = fX3_replace_64 N (d + 32) N w1 (nI r) x (plc 1 l) (nI l.length - 1) := by
    intro w1 x B1 G1 e1 R1 f
    refine cPlaceL (N := N) (d := d + 31) (len := l.length) (by rw [f.1 3 rfl]; exact s1) hl l 0 N 1 (by omega) (by omega) (fun j y hy => ?_)
    have hj : j < l.length := (List.getElem?_eq_some_iff.mp hy).1
    have m1 := s2 j (by omega)
    have m2 := s2 (j + 1) (by omega)
    rw [nde j y hy] at m1
    rw [Nat.zero_add] at m1 m2
    have hyv := lv y (List.mem_of_getElem? hy)
    have hn := ndl (j + 1)
    rw [Nat.zero_add]
    refine ⟨by rcases hyv.2 with z | z <;> omega, ?_⟩
    exact cInF (d := d + 31) G G1 e1 R1 (by omega) hyv.1 (by omega) (by rw [(f.2 27 rfl).1]; exact m1) (by rw [(f.2 27 rfl).1]; exact m2) (hwy j y hy)
  cases hf : fl B σ 30 B (R.2.2.1 r) with
  | none =>
    obtain ⟨w2, B2, j1, j2, j3, j4, j5⟩ := i2 hf
    have j6 : eX3_instance N (d + 32) w (nI (R.2.2.1 r)) 1 = _ := j1
    have f14 : sI w2 14 = nI c := by rw [j5.1 14 (by omega)]; exact h14
    rw [j6, cl_s]
    have go2 : fX3_replace_20 N (d + 32) N w2 (nI r) (-4) 1 0 = _ := go w2 (-4) B2 j3 j4 j2 j5.rp
    rw [go2, hno]
    refine ⟨fun B2 z h => (by cases h), fun _ => ?_⟩
    obtain ⟨N2, hN2⟩ : ∃ N2, N = N2 + 1 := ⟨N - 1, by omega⟩
    have stop : fX3_replace_64 N (d + 32) N w2 (nI r) (-4) (plc 1 l) (nI l.length - 1) = bX3_replace_159 N (d + 32) w2 (nI r) (-4) (plc 1 l) := by
      have : fX3_replace_64 N (d + 32) (N2 + 1) w2 (nI r) (-4) (plc 1 l) (nI l.length - 1) = bX3_replace_159 N (d + 32) w2 (nI r) (-4) (plc 1 l) := by
        show bX3_replace_64 N (d + 32) (fX3_replace_64 N (d + 32) N2) w2 (nI r) (-4) (plc 1 l) (nI l.length - 1) = _
        unfold bX3_replace_64
        rw [if_pos rfl]
        split <;> rfl
      rw [← hN2] at this
      exact this
    rw [stop]
    unfold bX3_replace_159
    rw [cAdd f14 hc, cv_s]
    exact ⟨_, B2, rfl, j2, j3, j4, ((j5.rp.pa rfl).pb rfl).pi rfl⟩
  | some z =>
    obtain ⟨B3, y⟩ := z
    obtain ⟨w2, j1, j2, j3⟩ := i1 B3 y hf
    obtain ⟨G3, e3, hy⟩ := fl_ok G 30 B _ B3 y G (Ext.rf B) a2 vok hf
    have j6 : eX3_instance N (d + 32) w (nI (R.2.2.1 r)) 1 = _ := j1
    have f14 : sI w2 14 = nI c := by rw [j3.1 14 (by omega)]; exact h14
    rw [j6, cl_s]
    have go2 : fX3_replace_20 N (d + 32) N w2 (nI r) (nI y) 1 0 = _ := go w2 (nI y) B3 G3 e3 j2 j3.rp
    rw [go2, reb_N l g _ hg]
    obtain ⟨k1, k2⟩ := cRebL G (N := N) (d := d + 30) (c := c) (x1 := nI r) (p := plc 1 l) (g := g) (h9 := fun j => ndW l u (j + 1)) hN hc l.length N B3 w2 y G3 e3 j2 hy (by omega) hl f14 (fun j hj => by
      have x1 := hg j hj
      have m1 := s2 j (by omega)
      have m2 := s2 (j + 1) (by omega)
      rw [nde j _ x1] at m1
      rw [Nat.zero_add] at m1 m2
      have hn := ndl (j + 1)
      rw [(j3.2.1 27 (by omega)).1]
      exact ⟨m1, ⟨m2, by omega, hwy j _ x1⟩, lv _ (List.mem_of_getElem? x1)⟩)
    refine ⟨fun B2 z h => ?_, fun h => ?_⟩
    · obtain ⟨w4, c1, c2, c3, c4, c5, c6, c7, c8, c9⟩ := k1 B2 z h
      refine ⟨w4, c1, c2, c3, e3.tr c4, c5, j3.rp.tr c6, c7, fun j => ?_, fun j => ?_⟩
      · rw [c8 j, (j3.2.1 43 (by omega)).1]
      · rw [c9 j, (j3.2.1 44 (by omega)).2]
    · obtain ⟨w4, B4, c1, c2, c3, c4, c5⟩ := k2 h
      exact ⟨w4, B4, c1, c2, c3, e3.tr c4, j3.rp.tr c5⟩
