/-! trees made in the bank -/
def bt : Tr → Bk → Option (Bk × Nat)
  | .tag h (.append a b) => fun B =>
    if 1 ≤ arB B h then
      (match bt a B with
       | none => none
       | some x => if 2 ≤ arB B h then (match bt b x.1 with | none => none | some y => mkB y.1 h x.2 y.2) else mkB x.1 h x.2 2000)
    else mkB B h 2000 2000
  | .tag v .line => fun B => mkB B (10 + v) 2000 2000
  | _ => fun _ => none
theorem bt_nd {h : Nat} {a b : Tr} {B : Bk} : bt (nd h a b) B = if 1 ≤ arB B h then (match bt a B with | none => none | some x => if 2 ≤ arB B h then (match bt b x.1 with | none => none | some y => mkB y.1 h x.2 y.2) else mkB x.1 h x.2 2000) else mkB B h 2000 2000 := rfl
theorem bt_vr {v : Nat} {B : Bk} : bt (vr v) B = mkB B (10 + v) 2000 2000 := rfl
/-- a tree that may be made -/
def WT (s : Nat) (ar : Nat → Nat) : Tr → Prop
  | .tag h (.append a b) => h < s ∧ (1 ≤ ar h → WT s ar a) ∧ (2 ≤ ar h → WT s ar b)
  | .tag v .line => v < 8
  | _ => False
theorem VN.var {B : Bk} (G : GB B) {v : Nat} (hv : v < 8) : VN B (10 + v) 2000 2000 := by
  have h4 := G.2.2.2.1 (10 + v) (by omega)
  exact ⟨Or.inr (by omega), by rw [h4.1]; rfl, by rw [h4.1]; rfl⟩
theorem bt_ok : ∀ (τ : Tr) (B B2 : Bk) (x : Nat), GB B → WT (sB B) (arB B) τ → bt τ B = some (B2, x) → GB B2 ∧ Ext B B2 ∧ x < nB B2
  | .tag h (.append a b) => fun B B2 x G wt e => by
    obtain ⟨w1, w2, w3⟩ := wt
    rw [show bt (.tag h (.append a b)) B = _ from bt_nd] at e
    by_cases n1 : 1 ≤ arB B h
    · rw [if_pos n1] at e
      cases h1 : bt a B with
      | none => rw [h1] at e; cases e
      | some y =>
        obtain ⟨B3, p⟩ := y
        rw [h1] at e
        obtain ⟨G3, e3, hp⟩ := bt_ok a B B3 p G (w2 n1) h1
        by_cases n2 : 2 ≤ arB B h
        · simp only [if_pos n2] at e
          cases h2 : bt b B3 with
          | none => rw [h2] at e; cases e
          | some z =>
            obtain ⟨B4, q⟩ := z
            rw [h2] at e
            obtain ⟨G4, e4, hq⟩ := bt_ok b B3 B4 q G3 (by rw [e3.2.1, e3.2.2.1]; exact w3 n2) h2
            have ext := e3.tr e4
            have hvn : VN B4 h p q := ⟨Or.inl (by rw [ext.2.1]; exact w1), by rw [ext.2.2.1, if_pos n1]; have := e4.1; omega, by rw [ext.2.2.1, if_pos n2]; exact hq⟩
            have mk := mkB_ok G4 hvn e
            exact ⟨mk.1, ext.tr mk.2.1, mk.2.2.1⟩
        · simp only [if_neg n2] at e
          have hvn : VN B3 h p 2000 := ⟨Or.inl (by rw [e3.2.1]; exact w1), by rw [e3.2.2.1, if_pos n1]; exact hp, by rw [e3.2.2.1, if_neg n2]⟩
          have mk := mkB_ok G3 hvn e
          exact ⟨mk.1, e3.tr mk.2.1, mk.2.2.1⟩
    · rw [if_neg n1] at e
      have hvn : VN B h 2000 2000 := ⟨Or.inl w1, by rw [if_neg n1], by rw [if_neg (by omega)]⟩
      have mk := mkB_ok G hvn e
      exact ⟨mk.1, mk.2.1, mk.2.2.1⟩
  | .tag v .line => fun B B2 x G wt e => by
    have mk := mkB_ok G (VN.var G wt) e
    exact ⟨mk.1, mk.2.1, mk.2.2.1⟩
  | .tag n .nil => fun _ _ _ _ wt _ => wt.elim
  | .tag n (.align _) => fun _ _ _ _ wt _ => wt.elim
  | .tag n (.text _) => fun _ _ _ _ wt _ => wt.elim
  | .tag n (.nest _ _) => fun _ _ _ _ wt _ => wt.elim
  | .tag n (.group _ _) => fun _ _ _ _ wt _ => wt.elim
  | .tag n (.tag _ _) => fun _ _ _ _ wt _ => wt.elim
  | .nil => fun _ _ _ _ wt _ => wt.elim
  | .line => fun _ _ _ _ wt _ => wt.elim
  | .align _ => fun _ _ _ _ wt _ => wt.elim
  | .text _ => fun _ _ _ _ wt _ => wt.elim
  | .nest _ _ => fun _ _ _ _ wt _ => wt.elim
  | .append _ _ => fun _ _ _ _ wt _ => wt.elim
  | .group _ _ => fun _ _ _ _ wt _ => wt.elim
/-- trees of terms may be made -/
theorem tv_WT {B : Bk} (G : GB B) {ρ : Nat → Tr} {m : Nat} : ∀ k t, t < k → t < nB B → (∀ v, v < 8 → 0 < ctB B t v → WT (sB B) (arB B) (ρ (v + m))) → WT (sB B) (arB B) (tv B ρ m t) := by
  intro k
  induction k with
  | zero => intro t h; omega
  | succ k ih =>
    intro t h ht hv
    have hal := G.a_le ht
    rw [tv_eq G ht]
    by_cases q1 : hB B t < 10
    · rw [if_pos q1]
      have hs : hB B t < sB B := by rcases (G.2.2.2.2.1 t ht).1 with z | z <;> omega
      refine ⟨hs, fun q => ?_, fun q => ?_⟩
      · have q2 : 1 ≤ npB B t := q
        have := (G.np ht).2.2.1 q2
        rw [if_pos q2]
        exact ih _ (by omega) (by omega) (fun v h8 hc => hv v h8 ((ct_pos G ht h8).1 q2 hc))
      · have q2 : 2 ≤ npB B t := q
        have := (G.np ht).2.2.2.1 q2
        rw [if_pos q2]
        exact ih _ (by omega) (by omega) (fun v h8 hc => hv v h8 ((ct_pos G ht h8).2.1 q2 hc))
    · rw [if_neg q1]
      exact hv _ (by omega) ((ct_pos G ht (by omega)).2.2 (by omega))
abbrev buS : Nat → Bool := fun k => k == 2 || k == 4 || k == 10 || k == 11
abbrev buA : Nat → Bool := fun k => decide (2 < k) && decide (k < 9)
theorem FrO.bu {w w2 : Wd} (h : FrO w w2) : Fr buS buA w w2 := ⟨fun k hk => h.1 k (fun z => by rw [z] at hk; cases hk) (fun z => by rw [z] at hk; cases hk), fun k hk => h.2.1 k (by
  simp only [Bool.and_eq_false_iff, decide_eq_false_iff_not] at hk
  omega)⟩
theorem Fr.buw {w w2 : Wd} (h : Fr wkS noA w w2) : Fr buS buA w w2 := h.mn (fun k hk => by
    simp only [Bool.or_eq_false_iff] at hk ⊢
    exact ⟨hk.1.2, hk.2⟩) (fun _ _ => rfl)
/-- over: some bank is there -/
def OvB (B : Bk) (w : Wd) : Prop := ¬ sI w 4 = 0 ∧ ∃ B2, GB B2 ∧ Ext B B2 ∧ RM B2 (pI w 4 0)
theorem mk65O {N d : Nat} {w : Wd} {a b c : Int32} (ho : ¬ sI w 4 = 0) : eX11_make N (d + 2) w a b c = some (w, -1) := mMakeOver ho
theorem RM.xk {S A : Nat → Bool} {B : Bk} {w w2 : Wd} (h : RM B (pI w 4 0)) (f : Fr S A w w2) (s0 : S 1 = false := by rfl) (s1 : S 2 = false := by rfl) (hA : ∀ k, k < 9 → A k = false := by decide) : RM B (pI w2 4 0) := by
  obtain ⟨r1, r2, r3, r4, r5, r6⟩ := h
  have a := fun k h1 => f.2 k (hA k h1)
  refine ⟨(f.1 1 s0).trans r1, (f.1 2 s1).trans r2, rfl, ?_, ?_, ?_⟩
  · show ∀ k, k < sB B → aI w2 1 k = _ ∧ aI w2 2 k = _
    rw [(a 1 (by omega)).1, (a 2 (by omega)).1]; exact r4
  · show ∀ t, t < nB B → aI w2 3 t = _ ∧ aI w2 4 t = _ ∧ aI w2 5 t = _ ∧ aL w2 6 t = _ ∧ aL w2 7 t = _
    rw [(a 3 (by omega)).1, (a 4 (by omega)).1, (a 5 (by omega)).1, (a 6 (by omega)).2, (a 7 (by omega)).2]; exact r5
  · show ∀ t, t < nB B → ∀ v, v < 8 → aL w2 8 (8 * t + v) = _
    rw [(a 8 (by omega)).2]; exact r6
theorem mBuiltO {B : Bk} (G : GB B) {N : Nat} {β : Be} (hN : 2000000 ≤ N) (gb : Gb B β) : ∀ k d t m w, ¬ sI w 4 = 0 → RM B (pI w 4 0) → Rb β w → VT B t m → tht (TR B β m t) ≤ k → ∃ w2 y, eX11_built N (d + k + 3) w (nI t) (nI m) = some (w2, y) ∧ Fr wkS noA w w2 := by
  have g1 := G.1
  intro k
  induction k with
  | zero => intro d t m w _ _ _ hvt hh; have := tht_pos G gb hvt; omega
  | succ k ih =>
    intro d t m w ho rm hb hvt hh
    have key : eX11_built N (d + (k + 1) + 3) w (nI t) (nI m) = bX11_built_0 N (d + k + 3) (eX11_built N (d + k + 3)) w (nI t) (nI m) := rfl
    obtain ⟨w1, b, bm, q1, q2, q3, q4, q5, q6, q7⟩ := mWalkO G (N := N) (d := d + k + 1) hN gb rm hb hvt
    have q8 : eX11_walk N (d + k + 3) w (nI t) (nI m) = _ := q1
    have hbn := q5.1.1
    have ho1 : ¬ sI w1 4 = 0 := by rw [q2.1 4 rfl]; exact ho
    have R1 : RM B (pI w1 4 0) := rm.xk q2
    have hb1 : Rb β w1 := hb.k q2
    have eT : TR B β m t = TR B β bm b := q6 _ (ρB_sat G gb)
    rw [eT] at hh
    have te := tv_eq G (ρ := ρB B β) (m := bm) hbn
    have mv : eX11_isVariable N (d + k + 3) w1 (nI b) = some (w1, if hB B b < 10 then 0 else 1) := mIsVarO G R1 hbn
    have hnp := (G.np hbn).1
    have vpa := q5.1.pa G
    rw [key]
    unfold bX11_built_0
    simp only [c_nm]
    rw [q8, cv_s, q3, q4, mv, cl_s]
    have mk98 : ∀ w3 x y, ¬ sI w3 4 = 0 → ∃ z, bX11_built_98 N (d + k + 3) (eX11_built N (d + k + 3)) w3 (nI b) x y = some (w3, z) := fun w3 x y h3 => by
      unfold bX11_built_98
      rw [ld_n (by omega) (by omega)]
      have : eX11_make N (d + k + 3) w3 (aI w3 3 b) x y = some (w3, -1) := mMakeOver h3
      rw [this, cl_s]
      exact ⟨-1, rfl⟩
    by_cases s1 : hB B b < 10
    · rw [if_pos s1] at te
      have hta : 1 ≤ npB B b → tht (TR B β bm (aB B b)) ≤ k := fun z => by
        show tht (tv B (ρB B β) bm (aB B b)) ≤ k
        have hh2 : tht (tv B (ρB B β) bm b) ≤ k + 1 := hh
        rw [te, if_pos z] at hh2
        have := (tht_nd1 (h := hB B b) (a := tv B (ρB B β) bm (aB B b)) (b := if 2 ≤ npB B b then tv B (ρB B β) bm (bB B b) else no)).1
        omega
      have htb : 2 ≤ npB B b → tht (TR B β bm (bB B b)) ≤ k := fun z => by
        show tht (tv B (ρB B β) bm (bB B b)) ≤ k
        have hh2 : tht (tv B (ρB B β) bm b) ≤ k + 1 := hh
        rw [te, if_pos z] at hh2
        have := (tht_nd1 (h := hB B b) (a := if 1 ≤ npB B b then tv B (ρB B β) bm (aB B b) else no) (b := tv B (ρB B β) bm (bB B b))).2
        omega
      have s71 : ∀ w3 x, Fr wkS noA w w3 → ∃ w4 z, bX11_built_71 N (d + k + 3) (eX11_built N (d + k + 3)) w3 (nI b) (nI bm) x = some (w4, z) ∧ Fr wkS noA w w4 := fun w3 x f3 => by
        have R3 : RM B (pI w3 4 0) := rm.xk f3
        have ho3 : ¬ sI w3 4 = 0 := by rw [f3.1 4 rfl]; exact ho
        unfold bX11_built_71
        rw [mPartsO G R3 hbn, cl_s]
        by_cases n2 : 2 ≤ npB B b
        · have lb := (G.np hbn).2.2.2.1 n2
          have h5 : aI w3 5 b = eN (bB B b) := (R3.2.2.2.2.1 b hbn).2.2.1
          obtain ⟨w4, y, e1, e2⟩ := ih d (bB B b) bm w3 ho3 R3 (hb.k f3) (vpa.2.1 n2) (htb n2)
          rw [if_neg (show ¬ nI (npB B b) ≤ 1 from fun z => by rw [show (1 : Int32) = nI 1 from rfl, nI_leI (by omega) (by omega)] at z; omega), ld_n (by omega) (by omega), h5, eN_n (by omega), e1, cl_s]
          obtain ⟨z, hz⟩ := mk98 w4 x y (by rw [e2.1 4 rfl]; exact ho3)
          exact ⟨w4, z, hz, f3.tr e2⟩
        · rw [if_pos (show nI (npB B b) ≤ 1 by rw [show (1 : Int32) = nI 1 from rfl, nI_leI (by omega) (by omega)]; omega)]
          obtain ⟨z, hz⟩ := mk98 w3 x (-1) ho3
          exact ⟨w3, z, hz, f3⟩
      rw [if_pos s1, if_pos i00, mPartsO G R1 hbn, cl_s]
      by_cases n1 : 1 ≤ npB B b
      · have la := (G.np hbn).2.2.1 n1
        have h4 : aI w1 4 b = eN (aB B b) := (R1.2.2.2.2.1 b hbn).2.1
        obtain ⟨w2, y, e1, e2⟩ := ih d (aB B b) bm w1 ho1 R1 hb1 (vpa.1 n1) (hta n1)
        rw [if_neg (show ¬ nI (npB B b) ≤ 0 from fun z => by rw [show (0 : Int32) = nI 0 from rfl, nI_leI (by omega) (by omega)] at z; omega), ld_n (by omega) (by omega), h4, eN_n (by omega), e1, cl_s]
        exact s71 w2 y (q2.tr e2)
      · rw [if_pos (show nI (npB B b) ≤ 0 by rw [show (0 : Int32) = nI 0 from rfl, nI_leI (by omega) (by omega)]; omega)]
        exact s71 w1 _ q2
    · have hp := vpa.2.2 (by omega)
      have mvo : eX11_variableOf N (d + k + 3) w1 (nI b) = some (w1, nI (hB B b - 10)) := mVarOfO G R1 hbn (by omega)
      rw [if_neg s1, if_neg i10, mvo, cl_s, nI_add, ld_n (by omega) (by omega)]
      have : eX11_make N (d + k + 3) w1 (-1 - aI w1 21 (hB B b - 10 + bm)) (-1) (-1) = some (w1, -1) := mMakeOver ho1
      rw [this, cl_s]
      exact ⟨w1, -1, rfl, q2⟩
def nmT (num : Nat → Nat) (τ : Tr) : Tr := sub (fun u => vr (num u)) τ
/-- numbers for the variables of a tree -/
def NOK (num : Nat → Nat) (τ : Tr) (w : Wd) : Prop := ∀ u, u ∈ vs τ → u < 8 ∧ num u < 8 ∧ aI w 21 u = nI (num u)
theorem NOK.k {S A : Nat → Bool} {num : Nat → Nat} {τ : Tr} {w w2 : Wd} (h : NOK num τ w) (f : Fr S A w w2) (a1 : A 21 = false := by rfl) : NOK num τ w2 := by
  unfold NOK
  rw [(f.2 21 a1).1]
  exact h
theorem Rb.bu {β : Be} {w w2 : Wd} (h : Rb β w) (f : Fr buS buA w w2) : Rb β w2 := h.k f
theorem mBuilt {N : Nat} {β : Be} {num : Nat → Nat} (hN : 2000000 ≤ N) : ∀ k d t m B w, GB B → Gb B β → RM B w → Rb β w → VT B t m → tht (TR B β m t) ≤ k → NOK num (TR B β m t) w →
    (∀ B2 x, bt (nmT num (TR B β m t)) B = some (B2, x) → ∃ w2, eX11_built N (d + k + 3) w (nI t) (nI m) = some (w2, nI x) ∧ RM B2 w2 ∧ GB B2 ∧ Ext B B2 ∧ x < nB B2 ∧ Fr buS buA w w2) ∧
    (bt (nmT num (TR B β m t)) B = none → ∃ w2 y, eX11_built N (d + k + 3) w (nI t) (nI m) = some (w2, y) ∧ OvB B w2 ∧ Fr buS buA w w2) := by
  intro k
  induction k with
  | zero => intro d t m B w G gb _ _ hvt hh; have := tht_pos G gb hvt; omega
  | succ k ih =>
    intro d t m B w G gb rm hb hvt hh hnum
    have g1 := G.1
    have key : eX11_built N (d + (k + 1) + 3) w (nI t) (nI m) = bX11_built_0 N (d + k + 3) (eX11_built N (d + k + 3)) w (nI t) (nI m) := rfl
    obtain ⟨w1, b, bm, q1, q2, q3, q4, q5, q6, q7⟩ := mWalk G (N := N) (d := d + k + 1) hN gb rm hb hvt
    have q8 : eX11_walk N (d + k + 3) w (nI t) (nI m) = _ := q1
    have hbn := q5.1.1
    have rm1 : RM B w1 := rm.k q2
    have hb1 : Rb β w1 := hb.k q2
    have eT : TR B β m t = TR B β bm b := q6 _ (ρB_sat G gb)
    rw [eT] at hh hnum ⊢
    have hnum1 : NOK num (TR B β bm b) w1 := hnum.k q2
    have te := tv_eq G (ρ := ρB B β) (m := bm) hbn
    have mv : eX11_isVariable N (d + k + 3) w1 (nI b) = some (w1, if hB B b < 10 then 0 else 1) := mIsVar G rm1 hbn
    have hnp := (G.np hbn).1
    have vpa := q5.1.pa G
    have hal := G.a_le hbn
    rw [key]
    unfold bX11_built_0
    simp only [c_nm]
    rw [q8, cv_s, q3, q4, mv, cl_s]
    by_cases s1 : hB B b < 10
    · rw [if_pos s1] at te
      have hsb : hB B b < sB B := by rcases (G.2.2.2.2.1 b hbn).1 with z | z <;> omega
      have hta : 1 ≤ npB B b → tht (TR B β bm (aB B b)) ≤ k := fun z => by
        show tht (tv B (ρB B β) bm (aB B b)) ≤ k
        have hh2 : tht (tv B (ρB B β) bm b) ≤ k + 1 := hh
        rw [te, if_pos z] at hh2
        have := (tht_nd1 (h := hB B b) (a := tv B (ρB B β) bm (aB B b)) (b := if 2 ≤ npB B b then tv B (ρB B β) bm (bB B b) else no)).1
        omega
      have htb : 2 ≤ npB B b → tht (TR B β bm (bB B b)) ≤ k := fun z => by
        show tht (tv B (ρB B β) bm (bB B b)) ≤ k
        have hh2 : tht (tv B (ρB B β) bm b) ≤ k + 1 := hh
        rw [te, if_pos z] at hh2
        have := (tht_nd1 (h := hB B b) (a := if 1 ≤ npB B b then tv B (ρB B β) bm (aB B b) else no) (b := tv B (ρB B β) bm (bB B b))).2
        omega
      have eT2 : nmT num (TR B β bm b) = nd (hB B b) (nmT num (if 1 ≤ npB B b then TR B β bm (aB B b) else no)) (nmT num (if 2 ≤ npB B b then TR B β bm (bB B b) else no)) := by
        show sub _ (tv B (ρB B β) bm b) = _
        rw [te]
        rfl
      have hna : 1 ≤ npB B b → NOK num (TR B β bm (aB B b)) w1 := fun z u hu => hnum1 u (by
        show u ∈ vs (tv B (ρB B β) bm b)
        rw [te]
        refine List.mem_append.mpr (Or.inl ?_)
        rw [if_pos z]
        exact hu)
      have hnb : 2 ≤ npB B b → NOK num (TR B β bm (bB B b)) w1 := fun z u hu => hnum1 u (by
        show u ∈ vs (tv B (ρB B β) bm b)
        rw [te]
        refine List.mem_append.mpr (Or.inr ?_)
        rw [if_pos z]
        exact hu)
      -- the last make
      have last : ∀ B1 w3 p q x2 x3, GB B1 → Ext B B1 → RM B1 w3 → Fr buS buA w w3 → VN B1 (hB B b) p q → (1 ≤ npB B b → x2 = eN p) → (2 ≤ npB B b → x3 = eN q) →
          (∀ B2 x, mkB B1 (hB B b) p q = some (B2, x) → ∃ w2, bX11_built_98 N (d + k + 3) (eX11_built N (d + k + 3)) w3 (nI b) x2 x3 = some (w2, nI x) ∧ RM B2 w2 ∧ GB B2 ∧ Ext B B2 ∧ x < nB B2 ∧ Fr buS buA w w2) ∧ (mkB B1 (hB B b) p q = none → ∃ w2 y, bX11_built_98 N (d + k + 3) (eX11_built N (d + k + 3)) w3 (nI b) x2 x3 = some (w2, y) ∧ OvB B w2 ∧ Fr buS buA w w2) := by
        intro B1 w3 p q x2 x3 G1 e1 R3 f3 hvn hx2 hx3
        have et1 := e1.2.2.2.2 b hbn
        have en1 := e1.1
        have hr1 := (R3.2.2.2.2.1 b (by omega)).1
        rw [et1.1] at hr1
        have ear : arB B1 (hB B b) = npB B b := by rw [e1.2.2.1]; rfl
        obtain ⟨m1, m2⟩ := mMk (d := d + k + 1) (N := N) G1 R3 hN hvn (x2 := x2) (x3 := x3) (fun z => hx2 (by rw [ear] at z; exact z)) (fun z => hx3 (by rw [ear] at z; exact z))
        unfold bX11_built_98
        rw [ld_n (by omega) (by omega), hr1]
        refine ⟨fun B2 x h => ?_, fun h => ?_⟩
        · obtain ⟨w2, n1, n2, n3⟩ := m1 B2 x h
          have mk := mkB_ok G1 hvn h
          have n4 : eX11_make N (d + k + 3) w3 (sg (hB B b)) x2 x3 = _ := n1
          rw [n4, cl_s]
          exact ⟨w2, rfl, n2, mk.1, e1.tr mk.2.1, mk.2.2.1, f3.tr n3.o.bu⟩
        · have n4 : eX11_make N (d + k + 3) w3 (sg (hB B b)) x2 x3 = _ := m2 h
          rw [n4, cl_s]
          have ov := Ov.mk (w1 := w3) G1 R3
          obtain ⟨o1, ⟨B4, o2, o3, o4⟩, o5⟩ := ov
          exact ⟨_, _, rfl, ⟨o1, B4, o2, e1.tr o3, o4⟩, f3.tr o5.bu⟩
      -- over on the way
      have over98 : ∀ w3 x y, OvB B w3 → ∃ z, bX11_built_98 N (d + k + 3) (eX11_built N (d + k + 3)) w3 (nI b) x y = some (w3, z) := fun w3 x y h3 => by
        unfold bX11_built_98
        rw [ld_n (by omega) (by omega)]
        have : eX11_make N (d + k + 3) w3 (aI w3 3 b) x y = some (w3, -1) := mMakeOver h3.1
        rw [this, cl_s]
        exact ⟨-1, rfl⟩
      have over71 : ∀ w3 x, OvB B w3 → Rb β w3 → ∃ w4 z, bX11_built_71 N (d + k + 3) (eX11_built N (d + k + 3)) w3 (nI b) (nI bm) x = some (w4, z) ∧ OvB B w4 ∧ Fr buS buA w3 w4 := fun w3 x h3 hb3 => by
        obtain ⟨o1, B3, o2, o3, o4⟩ := id h3
        have on := o3.1
        have ot := o3.2.2.2.2 b hbn
        unfold bX11_built_71
        rw [mPartsO o2 o4 (by omega), cl_s, o3.np hbn]
        by_cases n2 : 2 ≤ npB B b
        · have lb := (G.np hbn).2.2.2.1 n2
          have h5 : aI w3 5 b = eN (bB B b) := by
            have := (o4.2.2.2.2.1 b (by omega)).2.2.1
            rw [ot.2.2.1] at this
            exact this
          obtain ⟨w4, y, e1, e2⟩ := mBuiltO o2 (N := N) hN (gb.ext o3) k d (bB B b) bm w3 o1 o4 hb3 ((vpa.2.1 n2).ext o3) (by rw [TR.ext G o2 o3 gb (vpa.2.1 n2)]; exact htb n2)
          have ov4 : OvB B w4 := ⟨by rw [e2.1 4 rfl]; exact o1, B3, o2, o3, o4.xk e2⟩
          rw [if_neg (show ¬ nI (npB B b) ≤ 1 from fun z => by rw [show (1 : Int32) = nI 1 from rfl, nI_leI (by omega) (by omega)] at z; omega), ld_n (by omega) (by omega), h5, eN_n (by omega), e1, cl_s]
          obtain ⟨z, hz⟩ := over98 w4 x y ov4
          exact ⟨w4, z, hz, ov4, e2.buw⟩
        · rw [if_pos (show nI (npB B b) ≤ 1 by rw [show (1 : Int32) = nI 1 from rfl, nI_leI (by omega) (by omega)]; omega)]
          obtain ⟨z, hz⟩ := over98 w3 x (-1) h3
          exact ⟨w3, z, hz, h3, Fr.rf w3⟩
      rw [if_pos s1, if_pos i00, mParts G rm1 hbn, cl_s, eT2, bt_nd]
      have ear0 : arB B (hB B b) = npB B b := rfl
      rw [ear0]
      by_cases n1 : 1 ≤ npB B b
      · have la := (G.np hbn).2.2.1 n1
        rw [if_pos n1, if_neg (show ¬ nI (npB B b) ≤ 0 from fun z => by rw [show (0 : Int32) = nI 0 from rfl, nI_leI (by omega) (by omega)] at z; omega), ld_n (by omega) (by omega), (rm1.2.2.2.2.1 b hbn).2.1, eN_n (by omega), if_pos n1]
        obtain ⟨i1, i2⟩ := ih d (aB B b) bm B w1 G gb rm1 hb1 (vpa.1 n1) (hta n1) (hna n1)
        cases h1 : bt (nmT num (TR B β bm (aB B b))) B with
        | none =>
          obtain ⟨w2, y, j1, j2, j3⟩ := i2 h1
          rw [j1, cl_s]
          obtain ⟨w4, z, hz, oz, fz⟩ := over71 w2 y j2 (hb1.bu j3)
          exact ⟨fun B2 x h => (by cases h), fun _ => ⟨w4, z, hz, oz, (q2.buw.tr j3).tr fz⟩⟩
        | some y =>
          obtain ⟨B3, p⟩ := y
          obtain ⟨w2, j1, j2, G3, e3, hp, j3⟩ := i1 B3 p h1
          have g31 := G3.1
          have en3 := e3.1
          have et3 := e3.2.2.2.2 b hbn
          have hr3 := (j2.2.2.2.2.1 b (by omega)).2.2.1
          rw [et3.2.2.1] at hr3
          rw [j1, cl_s]
          unfold bX11_built_71
          rw [mParts G3 j2 (by omega), cl_s, e3.np hbn]
          by_cases n2 : 2 ≤ npB B b
          · have lb := (G.np hbn).2.2.2.1 n2
            rw [if_neg (show ¬ nI (npB B b) ≤ 1 from fun z => by rw [show (1 : Int32) = nI 1 from rfl, nI_leI (by omega) (by omega)] at z; omega), ld_n (by omega) (by omega), hr3, eN_n (by omega)]
            have eTb := TR.ext G G3 e3 gb (vpa.2.1 n2)
            obtain ⟨k1, k2⟩ := ih d (bB B b) bm B3 w2 G3 (gb.ext e3) j2 (hb1.bu j3) ((vpa.2.1 n2).ext e3) (by rw [eTb]; exact htb n2) (by rw [eTb]; exact (hnb n2).k j3)
            rw [eTb] at k1 k2
            simp only [if_pos n2]
            cases h2 : bt (nmT num (TR B β bm (bB B b))) B3 with
            | none =>
              obtain ⟨w4, y, l1, l2, l3⟩ := k2 h2
              have ov : OvB B w4 := by
                obtain ⟨o1, B5, o2, o3, o4⟩ := l2
                exact ⟨o1, B5, o2, e3.tr o3, o4⟩
              rw [l1, cl_s]
              obtain ⟨z, hz⟩ := over98 w4 (nI p) y ov
              exact ⟨fun B2 x h => (by cases h), fun _ => ⟨w4, z, hz, ov, (q2.buw.tr j3).tr l3⟩⟩
            | some z =>
              obtain ⟨B4, q⟩ := z
              obtain ⟨w4, l1, l2, G4, e4, hq, l3⟩ := k1 B4 q h2
              have en4 := e4.1
              have g41 := G4.1
              have ext := e3.tr e4
              have hvn : VN B4 (hB B b) p q := VN.of G ext hbn (by rw [if_pos n1]; omega) (by rw [if_pos n2]; exact hq)
              rw [l1, cl_s]
              exact last B4 w4 p q _ _ G4 ext l2 ((q2.buw.tr j3).tr l3) hvn (fun _ => by rw [eN_n (by omega)]) (fun _ => by rw [eN_n (by omega)])
          · rw [if_pos (show nI (npB B b) ≤ 1 by rw [show (1 : Int32) = nI 1 from rfl, nI_leI (by omega) (by omega)]; omega)]
            simp only [if_neg n2]
            have hvn : VN B3 (hB B b) p 2000 := VN.of G e3 hbn (by rw [if_pos n1]; exact hp) (by rw [if_neg n2])
            exact last B3 w2 p 2000 _ _ G3 e3 j2 (q2.buw.tr j3) hvn (fun _ => by rw [eN_n (by omega)]) (fun z => absurd z n2)
      · rw [if_neg n1, if_pos (show nI (npB B b) ≤ 0 by rw [show (0 : Int32) = nI 0 from rfl, nI_leI (by omega) (by omega)]; omega)]
        unfold bX11_built_71
        rw [mParts G rm1 hbn, cl_s, if_pos (show nI (npB B b) ≤ 1 by rw [show (1 : Int32) = nI 1 from rfl, nI_leI (by omega) (by omega)]; omega)]
        have hvn : VN B (hB B b) 2000 2000 := VN.of G (Ext.rf B) hbn (by rw [if_neg n1]) (by rw [if_neg (by omega)])
        exact last B w1 2000 2000 _ _ G (Ext.rf B) rm1 q2.buw hvn (fun z => absurd z n1) (fun z => by omega)
    · rw [if_neg s1] at te
      have hun := q5.2 (by omega)
      have hp := vpa.2.2 (by omega)
      have mvo : eX11_variableOf N (d + k + 3) w1 (nI b) = some (w1, nI (hB B b - 10)) := mVarOf G rm1 hbn (by omega)
      have eT2 : TR B β bm b = vr (hB B b - 10 + bm) := by
        show tv B (ρB B β) bm b = _
        rw [te, ρB_un G gb hp.2 hun]
      have hn := hnum1 (hB B b - 10 + bm) (by rw [eT2]; exact List.mem_singleton.mpr rfl)
      have eT3 : nmT num (TR B β bm b) = vr (num (hB B b - 10 + bm)) := by rw [eT2]; rfl
      rw [if_neg s1, if_neg i10, mvo, cl_s, nI_add, ld_n (by omega) (by omega), hn.2.2, eT3, bt_vr]
      have hvn := VN.var G hn.2.1
      have hs : (-1 : Int32) - nI (num (hB B b - 10 + bm)) = sg (10 + num (hB B b - 10 + bm)) := (((sg_all (10 + num (hB B b - 10 + bm)) (by have := hn.2.1; omega)).2.2.2.2 _ hn.2.1).mpr rfl).symm
      have har := (G.2.2.2.1 (10 + num (hB B b - 10 + bm)) (by omega)).1
      obtain ⟨m1, m2⟩ := mMk (d := d + k + 1) (N := N) G rm1 hN hvn (x2 := -1) (x3 := -1) (fun z => by omega) (fun z => by omega)
      rw [hs]
      refine ⟨fun B2 x h => ?_, fun h => ?_⟩
      · obtain ⟨w2, n1, n2, n3⟩ := m1 B2 x h
        have mk := mkB_ok G hvn h
        have n4 : eX11_make N (d + k + 3) w1 (sg (10 + num (hB B b - 10 + bm))) (-1) (-1) = _ := n1
        rw [n4, cl_s]
        exact ⟨w2, rfl, n2, mk.1, mk.2.1, mk.2.2.1, q2.buw.tr n3.o.bu⟩
      · have n4 : eX11_make N (d + k + 3) w1 (sg (10 + num (hB B b - 10 + bm))) (-1) (-1) = _ := m2 h
        rw [n4, cl_s]
        have ov := Ov.mk (w1 := w1) G rm1
        obtain ⟨o1, ⟨B4, o2, o3, o4⟩, o5⟩ := ov
        exact ⟨_, _, rfl, ⟨o1, B4, o2, o3, o4⟩, q2.buw.tr o5.bu⟩
