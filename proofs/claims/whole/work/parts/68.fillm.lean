/-! the reference fills; it may be over -/
def FrO (w w2 : Wd) : Prop := (∀ k, k ≠ 2 → k ≠ 4 → sI w2 k = sI w k) ∧ (∀ k, (k < 3 ∨ 8 < k) → aI w2 k = aI w k ∧ aL w2 k = aL w k) ∧ ∀ k, sL w2 k = sL w k
theorem FrO.tr {w w2 w3 : Wd} (h : FrO w w2) (h2 : FrO w2 w3) : FrO w w3 := ⟨fun k hk hk2 => (h2.1 k hk hk2).trans (h.1 k hk hk2), fun k hk => ⟨(h2.2.1 k hk).1.trans (h.2.1 k hk).1, (h2.2.1 k hk).2.trans (h.2.1 k hk).2⟩, fun k => (h2.2.2 k).trans (h.2.2 k)⟩
theorem FrO.rf (w : Wd) : FrO w w := ⟨fun _ _ _ => rfl, fun _ _ => ⟨rfl, rfl⟩, fun _ => rfl⟩
theorem FrM.o {w w2 : Wd} (h : FrM w w2) : FrO w w2 := ⟨fun k hk _ => h.1 k hk, h.2.1, h.2.2⟩
def Ov (B : Bk) (w w2 : Wd) : Prop := ¬ sI w2 4 = 0 ∧ (∃ B2, GB B2 ∧ Ext B B2 ∧ RM B2 (pI w2 4 0)) ∧ FrO w w2
theorem Ov.pre {B B2 : Bk} {w w1 w2 : Wd} (e : Ext B B2) (f : FrO w w1) (h : Ov B2 w1 w2) : Ov B w w2 := by
  obtain ⟨h1, ⟨B3, h2, h3, h4⟩, h5⟩ := h
  exact ⟨h1, ⟨B3, h2, e.tr h3, h4⟩, f.tr h5⟩
theorem Ov.mk {B : Bk} {w w1 : Wd} (G : GB B) (R : RM B w) : Ov B w (pI w 4 1) := by
  refine ⟨by rw [sI_pI, if_pos rfl]; decide, ⟨B, G, Ext.rf B, ?_⟩, fun k _ h4 => by rw [sI_pI, if_neg h4], fun _ _ => ⟨rfl, rfl⟩, fun _ => rfl⟩
  rw [pI_pI]
  have : pI w 4 0 = w := by
    have := pI_eta w 4
    rw [R.2.2.1] at this
    exact this
  rw [this]
  exact R
theorem mIsVarO {N d : Nat} {B : Bk} {w : Wd} {t : Nat} (G : GB B) (R : RM B (pI w 4 0)) (ht : t < nB B) : eX11_isVariable N (d + 1) w (nI t) = some (w, if hB B t < 10 then 0 else 1) := by
  show bX11_isVariable_0 N d w (nI t) = _
  have g1 := G.1
  have hal := G.a_le ht
  have h3 : aI w 3 t = sg (hB B t) := (R.2.2.2.2.1 t ht).1
  unfold bX11_isVariable_0 bX11_isVariable_14 c_bo
  rw [ld_n (by omega) (by omega), h3]
  by_cases q : hB B t < 10
  · rw [if_pos ((sg_all _ hal.2.2).1.mpr q), if_pos q]; rfl
  · rw [if_neg (fun z => q ((sg_all _ hal.2.2).1.mp z)), if_neg q]; rfl
theorem mPartsO {N d : Nat} {B : Bk} {w : Wd} {t : Nat} (G : GB B) (R : RM B (pI w 4 0)) (ht : t < nB B) : eX11_parts N (d + 2) w (nI t) = some (w, nI (npB B t)) := by
  show bX11_parts_0 N (d + 1) w (nI t) = _
  have g1 := G.1
  have g2 := G.2.1
  have hal := G.a_le ht
  have h3 : aI w 3 t = sg (hB B t) := (R.2.2.2.2.1 t ht).1
  unfold bX11_parts_0 bX11_parts_23
  rw [mIsVarO G R ht, cl_s]
  by_cases q : hB B t < 10
  · rw [if_pos q, if_pos rfl, ld_n (by omega) (by omega), h3, (sg_all _ hal.2.2).2.1 q, ld_n q (by omega)]
    have hs : hB B t < sB B := by rcases (G.2.2.2.2.1 t ht).1 with z | z <;> omega
    have h1 : aI w 1 (hB B t) = nI (arB B (hB B t)) := (R.2.2.2.1 _ hs).1
    rw [h1]
    rfl
  · rw [if_neg q, if_neg (by decide)]
    have : npB B t = 0 := (G.2.2.2.1 _ (by omega)).1
    rw [this]
    rfl
theorem mFillO {N : Nat} {B : Bk} {w : Wd} (G : GB B) (R : RM B (pI w 4 0)) (ho : ¬ sI w 4 = 0) : ∀ k d t, szB B t ≤ k → k ≤ 30 → t < nB B → ∃ y, eX11_filled N (d + k + 2) w (nI t) = some (w, y) := by
  have g1 := G.1
  intro k
  induction k with
  | zero => intro d t h _ ht; have := (G.sz_le ht).2.1; omega
  | succ k ih =>
    intro d t h hk ht
    have key : eX11_filled N (d + (k + 1) + 2) w (nI t) = bX11_filled_0 N (d + k + 2) (eX11_filled N (d + k + 2)) w (nI t) := rfl
    have hnp := G.np ht
    have hal := G.a_le ht
    have h3 : aI w 3 t = sg (hB B t) := (R.2.2.2.2.1 t ht).1
    have h4 : aI w 4 t = eN (aB B t) := (R.2.2.2.2.1 t ht).2.1
    have h5 : aI w 5 t = eN (bB B t) := (R.2.2.2.2.1 t ht).2.2.1
    rw [key]
    unfold bX11_filled_0
    have mk : ∀ x y, ∃ z, bX11_filled_65 N (d + k + 2) (eX11_filled N (d + k + 2)) w (nI t) x y = some (w, z) := fun x y => by
      unfold bX11_filled_65
      rw [ld_n (by omega) (by omega)]
      have : eX11_make N (d + k + 2) w (aI w 3 t) x y = some (w, -1) := mMakeOver ho
      rw [this, cl_s]
      exact ⟨-1, rfl⟩
    have second : ∀ x, ∃ z, bX11_filled_41 N (d + k + 2) (eX11_filled N (d + k + 2)) w (nI t) x = some (w, z) := fun x => by
      unfold bX11_filled_41
      rw [mPartsO G R ht, cl_s]
      by_cases n2 : 2 ≤ npB B t
      · have lb := hnp.2.2.2.1 n2
        rw [if_neg (show ¬ nI (npB B t) ≤ 1 from fun z => by rw [show (1 : Int32) = nI 1 from rfl, nI_leI (by omega) (by omega)] at z; omega), ld_n (by omega) (by omega), h5, eN_n (by omega)]
        have pb := sz_b G ht (by omega) n2
        obtain ⟨y, hy⟩ := ih d (bB B t) (by omega) (by omega) pb.1
        rw [hy, cl_s]
        exact mk _ _
      · rw [if_pos (show nI (npB B t) ≤ 1 by rw [show (1 : Int32) = nI 1 from rfl, nI_leI (by omega) (by omega)]; omega)]
        exact mk _ _
    rw [mIsVarO G R ht, cl_s]
    by_cases q1 : hB B t < 10
    · rw [if_pos q1, if_pos i00, mPartsO G R ht, cl_s]
      by_cases n1 : 1 ≤ npB B t
      · have la := hnp.2.2.1 n1
        rw [if_neg (show ¬ nI (npB B t) ≤ 0 from fun z => by rw [show (0 : Int32) = nI 0 from rfl, nI_leI (by omega) (by omega)] at z; omega), ld_n (by omega) (by omega), h4, eN_n (by omega)]
        have pa := sz_a G ht (by omega) n1
        obtain ⟨y, hy⟩ := ih d (aB B t) (by omega) (by omega) pa.1
        rw [hy, cl_s]
        exact second _
      · rw [if_pos (show nI (npB B t) ≤ 0 by rw [show (0 : Int32) = nI 0 from rfl, nI_leI (by omega) (by omega)]; omega)]
        exact second _
    · rw [if_neg q1, if_neg i10]
      have : eX11_variableOf N (d + k + 2) w (nI t) = some (w, nI (hB B t - 10)) := by
        show bX11_variableOf_0 N (d + k + 1) w (nI t) = _
        unfold bX11_variableOf_0
        rw [ld_n (by omega) (by omega), h3, (sg_all _ hal.2.2).2.2.1 (by omega)]
      rw [this, cl_s, ld_n (by omega) (by omega)]
      exact ⟨_, rfl⟩
theorem mFill {Bs : Bk} (Gs : GB Bs) {N : Nat} {σ : Nat → Nat} (hN : 2000000 ≤ N) : ∀ k d t B w, GB B → Ext Bs B → RM B w → t < nB Bs → szB Bs t ≤ k → k ≤ 30 → (∀ v, v < 8 → aI w 12 v = eN (σ v)) → vOK Bs B σ t →
    (∀ B2 x, fl Bs σ k B t = some (B2, x) → ∃ w2, eX11_filled N (d + k + 2) w (nI t) = some (w2, nI x) ∧ RM B2 w2 ∧ FrM w w2) ∧ (fl Bs σ k B t = none → ∃ w2 y, eX11_filled N (d + k + 2) w (nI t) = some (w2, y) ∧ Ov B w w2) := by
  have gs1 := Gs.1
  intro k
  induction k with
  | zero => intro d t B w _ _ _ ht h; have := (Gs.sz_le ht).2.1; omega
  | succ k ih =>
    intro d t B w G e R ht hs hk h12 hv
    have g1 := G.1
    have en := e.1
    have htb : t < nB B := by omega
    have key : eX11_filled N (d + (k + 1) + 2) w (nI t) = bX11_filled_0 N (d + k + 2) (eX11_filled N (d + k + 2)) w (nI t) := rfl
    have et := e.2.2.2.2 t ht
    have vp := hv.pa Gs ht
    have hnp := Gs.np ht
    have hal := Gs.a_le ht
    have hr := R.2.2.2.2.1 t htb
    rw [et.1, et.2.1, et.2.2.1] at hr
    rw [key]
    generalize hX : fl Bs σ (k + 1) B t = X
    unfold fl at hX
    unfold bX11_filled_0
    rw [mIsVar G R htb, cl_s, et.1]
    by_cases q1 : hB Bs t < 10
    · rw [if_pos q1] at hX
      rw [if_pos q1, if_pos i00, mParts G R htb, cl_s, e.np ht]
      -- the last make
      have last : ∀ B1 w1 a b x2 x3, GB B1 → Ext B B1 → RM B1 w1 → FrM w w1 → VN B1 (hB Bs t) a b → (1 ≤ npB Bs t → x2 = eN a) → (2 ≤ npB Bs t → x3 = eN b) →
          (∀ B2 x, mkB B1 (hB Bs t) a b = some (B2, x) → ∃ w2, bX11_filled_65 N (d + k + 2) (eX11_filled N (d + k + 2)) w1 (nI t) x2 x3 = some (w2, nI x) ∧ RM B2 w2 ∧ FrM w w2) ∧ (mkB B1 (hB Bs t) a b = none → ∃ w2 y, bX11_filled_65 N (d + k + 2) (eX11_filled N (d + k + 2)) w1 (nI t) x2 x3 = some (w2, y) ∧ Ov B w w2) := by
        intro B1 w1 a b x2 x3 G1 e1 R1 f1 hvn hx2 hx3
        have ext := e.tr e1
        have et1 := ext.2.2.2.2 t ht
        have en1 := ext.1
        have hr1 := (R1.2.2.2.2.1 t (by omega)).1
        rw [et1.1] at hr1
        have ear : arB B1 (hB Bs t) = npB Bs t := by rw [ext.2.2.1]; rfl
        obtain ⟨m1, m2⟩ := mMk (d := d + k) (N := N) G1 R1 hN hvn (x2 := x2) (x3 := x3) (fun q => hx2 (by rw [ear] at q; exact q)) (fun q => hx3 (by rw [ear] at q; exact q))
        unfold bX11_filled_65
        rw [ld_n (by omega) (by omega), hr1]
        refine ⟨fun B2 x h => ?_, fun h => ?_⟩
        · obtain ⟨w2, n1, n2, n3⟩ := m1 B2 x h
          have n4 : eX11_make N (d + k + 2) w1 (sg (hB Bs t)) x2 x3 = _ := n1
          rw [n4, cl_s]
          exact ⟨w2, rfl, n2, f1.tr n3⟩
        · have n4 : eX11_make N (d + k + 2) w1 (sg (hB Bs t)) x2 x3 = _ := m2 h
          rw [n4, cl_s]
          exact ⟨_, _, rfl, Ov.pre e1 f1.o (Ov.mk (w1 := w1) G1 R1)⟩
      -- over on the way: the rest does nothing
      have over65 : ∀ w1 x2 x3, Ov B w w1 → ∃ y, bX11_filled_65 N (d + k + 2) (eX11_filled N (d + k + 2)) w1 (nI t) x2 x3 = some (w1, y) := by
        intro w1 x2 x3 ho
        unfold bX11_filled_65
        rw [ld_n (by omega) (by omega)]
        have : eX11_make N (d + k + 2) w1 (aI w1 3 t) x2 x3 = some (w1, -1) := mMakeOver ho.1
        rw [this, cl_s]
        exact ⟨-1, rfl⟩
      have over41 : ∀ w1 x2, Ov B w w1 → ∃ y, bX11_filled_41 N (d + k + 2) (eX11_filled N (d + k + 2)) w1 (nI t) x2 = some (w1, y) := by
        intro w1 x2 ho
        obtain ⟨o1, ⟨B3, o2, o3, o4⟩, o5⟩ := id ho
        have oe := e.tr o3
        have on := oe.1
        have ot := oe.2.2.2.2 t ht
        unfold bX11_filled_41
        rw [mPartsO o2 o4 (by omega), cl_s, oe.np ht]
        by_cases n2 : 2 ≤ npB Bs t
        · have lb := hnp.2.2.2.1 n2
          have h5 : aI w1 5 t = eN (bB Bs t) := by
            have := (o4.2.2.2.2.1 t (by omega)).2.2.1
            rw [ot.2.2.1] at this
            exact this
          rw [if_neg (show ¬ nI (npB Bs t) ≤ 1 from fun z => by rw [show (1 : Int32) = nI 1 from rfl, nI_leI (by omega) (by omega)] at z; omega), ld_n (by omega) (by omega), h5, eN_n (by omega)]
          have pb := sz_b Gs ht (by omega) n2
          have ozb := (oe.2.2.2.2 _ pb.1).2.2.2.1
          obtain ⟨y, hy⟩ := mFillO (N := N) o2 o4 o1 k d (bB Bs t) (by rw [ozb]; omega) (by omega) (by omega)
          have hy2 : eX11_filled N (d + k + 2) w1 (nI (bB Bs t)) = _ := hy
          rw [hy2, cl_s]
          exact over65 w1 _ _ ho
        · rw [if_pos (show nI (npB Bs t) ≤ 1 by rw [show (1 : Int32) = nI 1 from rfl, nI_leI (by omega) (by omega)]; omega)]
          exact over65 w1 _ _ ho
      by_cases n1 : 1 ≤ npB Bs t
      · have pa := sz_a Gs ht (by omega) n1
        rw [if_pos n1] at hX
        rw [if_neg (show ¬ nI (npB Bs t) ≤ 0 from fun z => by rw [show (0 : Int32) = nI 0 from rfl, nI_leI (by omega) (by omega)] at z; omega), ld_n (by omega) (by omega), hr.2.1, eN_n (by omega)]
        obtain ⟨i1, i2⟩ := ih d (aB Bs t) B w G e R pa.1 (by omega) (by omega) h12 (vp.1 n1)
        cases h1 : fl Bs σ k B (aB Bs t) with
        | none =>
          rw [h1] at hX
          subst hX
          obtain ⟨w2, y, j1, j2⟩ := i2 h1
          rw [j1, cl_s]
          obtain ⟨z, hz⟩ := over41 w2 y j2
          exact ⟨fun B2 x h => (by cases h), fun _ => ⟨w2, z, hz, j2⟩⟩
        | some y =>
          obtain ⟨B3, a⟩ := y
          rw [h1] at hX
          obtain ⟨G3, e3, ha⟩ := fl_ok Gs k B _ B3 a G e pa.1 (vp.1 n1) h1
          obtain ⟨w2, j1, j2, j3⟩ := i1 B3 a h1
          have g31 := G3.1
          have en3 := e3.1
          have f12 : ∀ v, v < 8 → aI w2 12 v = eN (σ v) := fun v hv8 => by rw [(j3.2.1 12 (by omega)).1]; exact h12 v hv8
          have et3 := (e.tr e3).2.2.2.2 t ht
          have hr3 := j2.2.2.2.2.1 t (by omega)
          rw [et3.2.2.1] at hr3
          rw [j1, cl_s]
          unfold bX11_filled_41
          rw [mParts G3 j2 (by omega), cl_s, (e.tr e3).np ht]
          by_cases n2 : 2 ≤ npB Bs t
          · have pb := sz_b Gs ht (by omega) n2
            simp only [if_pos n2] at hX
            rw [if_neg (show ¬ nI (npB Bs t) ≤ 1 from fun z => by rw [show (1 : Int32) = nI 1 from rfl, nI_leI (by omega) (by omega)] at z; omega), ld_n (by omega) (by omega), hr3.2.2.1, eN_n (by omega)]
            obtain ⟨k1, k2⟩ := ih d (bB Bs t) B3 w2 G3 (e.tr e3) j2 pb.1 (by omega) (by omega) f12 ((vp.2.1 n2).ext e3)
            cases h2 : fl Bs σ k B3 (bB Bs t) with
            | none =>
              rw [h2] at hX
              subst hX
              obtain ⟨w4, y, l1, l2⟩ := k2 h2
              have ov : Ov B w w4 := Ov.pre e3 j3.o l2
              rw [l1, cl_s]
              obtain ⟨z, hz⟩ := over65 w4 (nI a) y ov
              exact ⟨fun B2 x h => (by cases h), fun _ => ⟨w4, z, hz, ov⟩⟩
            | some z =>
              obtain ⟨B4, b⟩ := z
              rw [h2] at hX
              obtain ⟨G4, e4, hb⟩ := fl_ok Gs k B3 _ B4 b G3 (e.tr e3) pb.1 ((vp.2.1 n2).ext e3) h2
              obtain ⟨w4, l1, l2, l3⟩ := k1 B4 b h2
              have en4 := e4.1
              have g41 := G4.1
              have hvn : VN B4 (hB Bs t) a b := VN.of Gs ((e.tr e3).tr e4) ht (by rw [if_pos n1]; omega) (by rw [if_pos n2]; exact hb)
              rw [l1, cl_s]
              have hX2 : mkB B4 (hB Bs t) a b = X := hX
              rw [← hX2]
              exact last B4 w4 a b _ _ G4 (e3.tr e4) l2 (j3.tr l3) hvn (fun _ => by rw [eN_n (by omega)]) (fun _ => by rw [eN_n (by omega)])
          · simp only [if_neg n2] at hX
            rw [if_pos (show nI (npB Bs t) ≤ 1 by rw [show (1 : Int32) = nI 1 from rfl, nI_leI (by omega) (by omega)]; omega)]
            have hvn : VN B3 (hB Bs t) a 2000 := VN.of Gs (e.tr e3) ht (by rw [if_pos n1]; exact ha) (by rw [if_neg n2])
            rw [← hX]
            exact last B3 w2 a 2000 _ _ G3 e3 j2 j3 hvn (fun _ => by rw [eN_n (by omega)]) (fun q => absurd q n2)
      · rw [if_neg n1] at hX
        rw [if_pos (show nI (npB Bs t) ≤ 0 by rw [show (0 : Int32) = nI 0 from rfl, nI_leI (by omega) (by omega)]; omega)]
        unfold bX11_filled_41
        rw [mParts G R htb, cl_s, e.np ht, if_pos (show nI (npB Bs t) ≤ 1 by rw [show (1 : Int32) = nI 1 from rfl, nI_leI (by omega) (by omega)]; omega), ← hX]
        have hvn : VN B (hB Bs t) 2000 2000 := VN.of Gs e ht (by rw [if_neg n1]) (by rw [if_neg (by omega)])
        exact last B w 2000 2000 _ _ G (Ext.rf B) R (FrM.rf w) hvn (fun q => absurd q n1) (fun q => by omega)
    · rw [if_neg q1] at hX
      subst hX
      have hsv := vp.2.2 (by omega)
      rw [if_neg q1, if_neg i10]
      have hvo : eX11_variableOf N (d + k + 2) w (nI t) = some (w, nI (hB B t - 10)) := mVarOf G R htb (by rw [et.1]; omega)
      rw [hvo, cl_s, et.1, ld_n (by omega) (by omega), h12 _ (by omega), eN_n (by omega)]
      refine ⟨fun B2 x h => ?_, fun h => (by cases h)⟩
      cases h
      exact ⟨w, rfl, R, FrM.rf w⟩
