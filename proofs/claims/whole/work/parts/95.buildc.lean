/-! what is made already is made again at no cost -/
theorem bt_st : ∀ (τ : Tr) (B B2 : Bk) (x : Nat), GB B → WT (sB B) (arB B) τ → bt τ B = some (B2, x) → ∀ B3, GB B3 → Ext B2 B3 → bt τ B3 = some (B3, x)
  | .tag h (.append a b) => fun B B2 x G wt e B3 G3 x3 => by
    have all := bt_ok (.tag h (.append a b)) B B2 x G wt e
    obtain ⟨w1, w2, w3⟩ := wt
    have ext := all.2.1.tr x3
    rw [show bt (.tag h (.append a b)) B = _ from bt_nd] at e
    rw [show bt (.tag h (.append a b)) B3 = _ from bt_nd, ext.2.2.1]
    have fin : ∀ B4 p q, GB B4 → VN B4 h p q → mkB B4 h p q = some (B2, x) → mkB B3 h p q = some (B3, x) := fun B4 p q G4 hv m => by
      obtain ⟨k1, k2, k3, k4, k5, k6⟩ := mkB_ok G4 hv m
      have ex := x3.2.2.2.2 x k3
      have := mkB_old G3 (t := x) (Nat.lt_of_lt_of_le k3 x3.1)
      rw [ex.1, ex.2.1, ex.2.2.1, k4, k5, k6] at this
      exact this
    by_cases n1 : 1 ≤ arB B h
    · rw [if_pos n1] at e ⊢
      cases h1 : bt a B with
      | none => rw [h1] at e; cases e
      | some y =>
        obtain ⟨Ba, p⟩ := y
        rw [h1] at e
        obtain ⟨Ga, ea, hp⟩ := bt_ok a B Ba p G (w2 n1) h1
        by_cases n2 : 2 ≤ arB B h
        · simp only [if_pos n2] at e ⊢
          cases h2 : bt b Ba with
          | none => rw [h2] at e; cases e
          | some z =>
            obtain ⟨Bb, q⟩ := z
            rw [h2] at e
            have wb : WT (sB Ba) (arB Ba) b := by rw [ea.2.1, ea.2.2.1]; exact w3 n2
            obtain ⟨Gb', eb, hq⟩ := bt_ok b Ba Bb q Ga wb h2
            have e2 := ea.tr eb
            have hvn : VN Bb h p q := ⟨Or.inl (by rw [e2.2.1]; exact w1), by rw [e2.2.2.1, if_pos n1]; have := eb.1; omega, by rw [e2.2.2.1, if_pos n2]; exact hq⟩
            have mk := mkB_ok Gb' hvn e
            rw [bt_st a B Ba p G (w2 n1) h1 B3 G3 ((eb.tr mk.2.1).tr x3)]
            simp only []
            rw [bt_st b Ba Bb q Ga wb h2 B3 G3 (mk.2.1.tr x3)]
            exact fin Bb p q Gb' hvn e
        · simp only [if_neg n2] at e ⊢
          have hvn : VN Ba h p 2000 := ⟨Or.inl (by rw [ea.2.1]; exact w1), by rw [ea.2.2.1, if_pos n1]; exact hp, by rw [ea.2.2.1, if_neg n2]⟩
          have mk := mkB_ok Ga hvn e
          rw [bt_st a B Ba p G (w2 n1) h1 B3 G3 (mk.2.1.tr x3)]
          exact fin Ba p 2000 Ga hvn e
    · rw [if_neg n1] at e ⊢
      exact fin B 2000 2000 G ⟨Or.inl w1, by rw [if_neg n1], by rw [if_neg (by omega)]⟩ e
  | .tag v .line => fun B B2 x G wt e B3 G3 x3 => by
    obtain ⟨k1, k2, k3, k4, k5, k6⟩ := mkB_ok G (VN.var G wt) e
    have ex := x3.2.2.2.2 x k3
    have := mkB_old G3 (t := x) (Nat.lt_of_lt_of_le k3 x3.1)
    rw [ex.1, ex.2.1, ex.2.2.1, k4, k5, k6] at this
    exact this
  | .tag n .nil => fun _ _ _ _ wt _ => wt.elim
  | .tag n (.align _) => fun _ _ _ _ wt _ => wt.elim
  | .tag n (.text _) => fun _ _ _ _ wt _ => wt.elim
  | .tag n (.nest _ _) => fun _ _ _ _ wt _ => wt.elim
  | .tag n (.group _ _) => fun _ _ _ _ wt _ => wt.elim
  | .tag n (.tag _ _) => fun _ _ _ _ wt _ => wt.elim
  | .nil => fun _ _ _ _ wt _ => wt.elim
  | .line => fun _ _ _ _ wt _ => wt.elim
  | .align _ => fun _ _ _ _ wt _ => wt.elim
  | .text _ => fun _ _ _ _ wt _ => wt.elim
  | .nest _ _ => fun _ _ _ _ wt _ => wt.elim
  | .append _ _ => fun _ _ _ _ wt _ => wt.elim
  | .group _ _ => fun _ _ _ _ wt _ => wt.elim
/-! the class builds what a node becomes -/
abbrev blS : Nat → Bool := fun k => k == 1
abbrev blA : Nat → Bool := fun k => decide (13 < k) && decide (k < 23) || k == 33 || k == 34
theorem FrB.bl {w w2 : Wd} (h : FrB w w2) : Fr blS blA w w2 := ⟨fun k hk => h.1 k (fun z => by rw [z] at hk; cases hk), fun k hk => h.2.1 k (by
  simp only [Bool.or_eq_false_iff, Bool.and_eq_false_iff, decide_eq_false_iff_not] at hk
  omega)⟩
theorem Fr.sb {w w2 : Wd} (h : Fr noS skA w w2) : Fr blS blA w w2 := h.mn (fun _ _ => rfl) (fun k hk => by
  simp only [Bool.or_eq_false_iff] at hk
  exact hk.2)
def BW (n : Nat) (b : Nat → Nat) (w : Wd) : Prop := ∀ x, x < n → aI w 33 x = eN (b x)
def BI (n : Nat) (f1 f2 bc : Nat → Nat) (T : Nat → Tr) (num : Nat → Nat) (b : Nat → Nat) (B : Bk) : Prop := ∀ x, x < n → b x ≠ 2000 → b x < nB B ∧ WT (sB B) (arB B) (nmT num (T x)) ∧ bt (nmT num (T x)) B = some (B, b x) ∧ (8 ≤ x → (f1 x ≠ 2000 → b (bc (f1 x)) ≠ 2000) ∧ (f2 x ≠ 2000 → b (bc (f2 x)) ≠ 2000))
theorem fu_ne {b : Nat → Nat} {x y r : Nat} (h : b y ≠ 2000) (hr : r ≠ 2000) : fu b x r y ≠ 2000 := by
  by_cases e : y = x
  · rw [e, fu_s]; exact hr
  · rw [fu_n e]; exact h
theorem BI.ext {n : Nat} {f1 f2 bc : Nat → Nat} {T : Nat → Tr} {num b : Nat → Nat} {B B2 : Bk} (G : GB B) (h : BI n f1 f2 bc T num b B) (G2 : GB B2) (e : Ext B B2) : BI n f1 f2 bc T num b B2 := fun x hx q => by
  obtain ⟨h1, h2, h3, h4⟩ := h x hx q
  exact ⟨Nat.lt_of_lt_of_le h1 e.1, by rw [e.2.1, e.2.2.1]; exact h2, bt_st _ _ _ _ G h2 h3 B2 G2 e, h4⟩
theorem BI.add {n x r : Nat} {f1 f2 bc : Nat → Nat} {T : Nat → Tr} {num b : Nat → Nat} {B : Bk} (h : BI n f1 f2 bc T num b B) (hr : r ≠ 2000) (hn : r < nB B ∧ WT (sB B) (arB B) (nmT num (T x)) ∧ bt (nmT num (T x)) B = some (B, r)) (hp : 8 ≤ x → (f1 x ≠ 2000 → b (bc (f1 x)) ≠ 2000) ∧ (f2 x ≠ 2000 → b (bc (f2 x)) ≠ 2000)) : BI n f1 f2 bc T num (fu b x r) B := fun z hz q => by
  by_cases e : z = x
  · rw [e, fu_s]
    exact ⟨hn.1, hn.2.1, hn.2.2, fun z8 => ⟨fun y => fu_ne ((hp z8).1 y) hr, fun y => fu_ne ((hp z8).2 y) hr⟩⟩
  · rw [fu_n e] at q ⊢
    obtain ⟨h1, h2, h3, h4⟩ := h z hz q
    exact ⟨h1, h2, h3, fun z8 => ⟨fun y => fu_ne ((h4 z8).1 y) hr, fun y => fu_ne ((h4 z8).2 y) hr⟩⟩
/-- how many are not made -/
def cV (b : Nat → Nat) : Nat → Nat
  | 0 => 0
  | n + 1 => cV b n + (if b n = 2000 then 1 else 0)
theorem cV_cg {b b2 : Nat → Nat} : ∀ n, (∀ x, x < n → b2 x = b x) → cV b2 n = cV b n := by
  intro n
  induction n with
  | zero => intro _; rfl
  | succ n ih =>
    intro h
    unfold cV
    rw [ih (fun x hx => h x (by omega)), h n (by omega)]
theorem cV_le {b : Nat → Nat} : ∀ n, cV b n ≤ n := by
  intro n
  induction n with
  | zero => exact Nat.le_refl _
  | succ n ih => unfold cV; split <;> omega
theorem cV_upd {b : Nat → Nat} {a r : Nat} (ha : b a = 2000) (hr : r ≠ 2000) : ∀ n, a < n → cV (fu b a r) n + 1 = cV b n := by
  intro n
  induction n with
  | zero => intro h; omega
  | succ n ih =>
    intro h
    unfold cV
    by_cases e : a = n
    · subst e
      rw [fu_s, if_neg hr, if_pos ha, cV_cg a (fun x hx => fu_n (by omega))]
    · rw [fu_n (by omega : n ≠ a)]
      have := ih (by omega)
      omega
theorem cUnb {N d n x : Nat} {hd f1 f2 bc b : Nat → Nat} {T : Nat → Tr} {w : Wd} (ts : TS n hd f1 f2 bc T) (tw : TW n hd f1 f2 bc w) (bw : BW n b w) (hb : ∀ x, x < n → b x ≤ 2000) (hx : x < n) (x8 : 8 ≤ x) :
    eX1_unbuiltPart N (d + 2) w (nI x) = some (w, if f1 x ≠ 2000 ∧ b (bc (f1 x)) = 2000 then nI (bc (f1 x)) else if f2 x ≠ 2000 ∧ b (bc (f2 x)) = 2000 then nI (bc (f2 x)) else -1) := by
  have hn := ts.2.2.2.2
  have key : eX1_unbuiltPart N (d + 2) w (nI x) = bX1_unbuiltPart_0 N (d + 1) w (nI x) := rfl
  rw [key]
  unfold bX1_unbuiltPart_0
  obtain ⟨e1, e2, e3⟩ := ts.2.2.1 x hx x8
  obtain ⟨k1, k2, k3⟩ := tw.2 x x8 hx
  rw [cSv (by omega), cl_s, if_neg (show ¬ x < 8 by omega), if_pos i00, ld_n (by omega) (by omega), k2]
  have sec : bX1_unbuiltPart_52 N (d + 1) w (nI x) = some (w, if f2 x ≠ 2000 ∧ b (bc (f2 x)) = 2000 then nI (bc (f2 x)) else -1) := by
    unfold bX1_unbuiltPart_52 bX1_unbuiltPart_95
    rw [ld_n (by omega) (by omega), k3]
    by_cases q : f2 x = 2000
    · rw [q, eN_no, if_pos rfl, if_neg (fun z => z.1 rfl)]
    · have y1 := e3.resolve_right q
      have y2 := (ts.1 _ y1).1
      rw [if_neg (eN_m1 (by omega)), eN_n (by omega), ld_n (by omega) (by omega), tw.1 _ y1, ld_n (by omega) (by omega), bw _ y2]
      by_cases q2 : b (bc (f2 x)) = 2000
      · rw [q2, eN_no, if_pos rfl, if_pos ⟨q, rfl⟩, ld_n (by omega) (by omega), tw.1 _ y1]
      · have := hb _ y2
        rw [if_neg (eN_m1 (by omega)), if_neg (fun z => q2 z.2)]
  by_cases q : f1 x = 2000
  · rw [if_neg (show ¬ (f1 x ≠ 2000 ∧ b (bc (f1 x)) = 2000) from fun z => z.1 q), q, eN_no, if_pos rfl, sec]
  · have y1 := e2.resolve_right q
    have y2 := (ts.1 _ y1).1
    rw [if_neg (eN_m1 (by omega)), eN_n (by omega), ld_n (by omega) (by omega), tw.1 _ y1, ld_n (by omega) (by omega), bw _ y2]
    by_cases q2 : b (bc (f1 x)) = 2000
    · rw [q2, eN_no, if_pos rfl, if_pos ⟨q, rfl⟩, ld_n (by omega) (by omega), tw.1 _ y1]
    · have := hb _ y2
      rw [if_neg (eN_m1 (by omega)), sec, if_neg (show ¬ (f1 x ≠ 2000 ∧ b (bc (f1 x)) = 2000) from fun z => q2 z.2)]
theorem cMakeOf {N d n x : Nat} {hd f1 f2 bc b : Nat → Nat} {T : Nat → Tr} {w : Wd} (ts : TS n hd f1 f2 bc T) (tw : TW n hd f1 f2 bc w) (bw : BW n b w) (hx : x < n) (x8 : 8 ≤ x) :
    eX1_makeOf N (d + 3) w (nI x) = eX8_make N (d + 2) w (nI (hd x)) (eN (if f1 x = 2000 then 2000 else b (bc (f1 x)))) (eN (if f2 x = 2000 then 2000 else b (bc (f2 x)))) := by
  have hn := ts.2.2.2.2
  have key : eX1_makeOf N (d + 3) w (nI x) = bX1_makeOf_0 N (d + 2) w (nI x) := rfl
  rw [key]
  unfold bX1_makeOf_0
  obtain ⟨e1, e2, e3⟩ := ts.2.2.1 x hx x8
  obtain ⟨k1, k2, k3⟩ := tw.2 x x8 hx
  rw [cSv (by omega), cl_s, if_neg (show ¬ x < 8 by omega), if_pos i00, ld_n (by omega) (by omega), k2, ld_n (by omega) (by omega), k3, ld_n (by omega) (by omega), k1]
  have eta : ∀ z : Option (Wd × Int32), (c_cl z fun w10 v11 => some (w10, v11)) = z := fun z => by
    cases z with
    | none => rfl
    | some z => rfl
  have sec : ∀ y2, bX1_makeOf_82 N (d + 2) w (eN (f2 x)) (nI (hd x)) y2 = eX8_make N (d + 2) w (nI (hd x)) y2 (eN (if f2 x = 2000 then 2000 else b (bc (f2 x)))) := fun y2 => by
    unfold bX1_makeOf_82 bX1_makeOf_105
    rw [eta, ]
    by_cases q : f2 x = 2000
    · rw [q, eN_no, if_pos rfl, if_pos rfl, eN_no]
    · have z1 := e3.resolve_right q
      have z2 := (ts.1 _ z1).1
      rw [if_neg (eN_m1 (by omega)), if_neg q, eN_n (by omega), ld_n (by omega) (by omega), tw.1 _ z1, ld_n (by omega) (by omega), bw _ z2, eta]
  by_cases q : f1 x = 2000
  · rw [q, eN_no, if_pos rfl, if_pos rfl, eN_no, sec]
  · have z1 := e2.resolve_right q
    have z2 := (ts.1 _ z1).1
    rw [if_neg (eN_m1 (by omega)), if_neg q, eN_n (by omega), ld_n (by omega) (by omega), tw.1 _ z1, ld_n (by omega) (by omega), bw _ z2, sec]
theorem num10 : ∀ x, x < 8 → (10 : Int32) + nI x = nI (10 + x) := by decide
theorem cMakeV {N d x k : Nat} {w : Wd} (hx : x < 8) (hk : k < 8) (h : aI w 31 x = nI k) : eX1_makeOf N (d + 3) w (nI x) = eX8_make N (d + 2) w (nI (10 + k)) (eN 2000) (eN 2000) := by
  have key : eX1_makeOf N (d + 3) w (nI x) = bX1_makeOf_0 N (d + 2) w (nI x) := rfl
  rw [key]
  unfold bX1_makeOf_0
  have eta : ∀ z : Option (Wd × Int32), (c_cl z fun w10 v11 => some (w10, v11)) = z := fun z => by
    cases z with
    | none => rfl
    | some z => rfl
  rw [cSv (by omega), cl_s, if_pos hx, if_neg i10, ld_n hx (by omega), h, num10 k hk, eta, eN_no]
theorem cUnbV {N d x : Nat} {w : Wd} (hx : x < 8) : eX1_unbuiltPart N (d + 2) w (nI x) = some (w, -1) := by
  have key : eX1_unbuiltPart N (d + 2) w (nI x) = bX1_unbuiltPart_0 N (d + 1) w (nI x) := rfl
  rw [key]
  unfold bX1_unbuiltPart_0
  rw [cSv (by omega), cl_s, if_pos hx, if_neg i10]
/-- the top is made -/
theorem cBldFin {N d n x h ra rb lk : Nat} {b : Nat → Nat} {B : Bk} {w : Wd} {st : List Nat} {xw : Int32} (hN : 2000000 ≤ N) (hn : n ≤ 158) (hx : x < n) (hu : eX1_unbuiltPart N (d + 3) w (nI x) = some (w, -1)) (hm : eX1_makeOf N (d + 3) w (nI x) = eX8_make N (d + 2) w (nI h) (eN ra) (eN rb)) (G : GB B) (R : RB B w) (hv : VN B h ra rb) (sa : SA (x :: st) w) (hl : st.length < 158) (bw : BW n b w) (hlk : lk ≤ 2000) :
    (∀ B3 r, mkB B h ra rb = some (B3, r) → ∃ w3, (∀ f, fX1_build_20 N (d + 3) (f + 1) w xw (nI (st.length + 1)) (nI lk) = fX1_build_20 N (d + 3) f w3 xw (nI st.length) (nI (lk + 1))) ∧ Fr blS blA w w3 ∧ (aI w3 34 = aI w 34) ∧ RB B3 w3 ∧ BW n (fu b x r) w3) ∧
    (mkB B h ra rb = none → ∃ w3, (∀ f, fX1_build_20 N (d + 3) (f + 1) w xw (nI (st.length + 1)) (nI lk) = some (w3, -4)) ∧ Fr blS blA w w3 ∧ RB B w3) := by
  have g1 := G.1
  obtain ⟨m1, m2⟩ := cMk (d := d) G R hN hv
  have key : ∀ f, fX1_build_20 N (d + 3) (f + 1) w xw (nI (st.length + 1)) (nI lk) = bX1_build_20 N (d + 3) (fX1_build_20 N (d + 3) f) w xw (nI (st.length + 1)) (nI lk) := fun f => rfl
  have c1 : ¬ (1000000 : Int32) ≤ nI lk := by rw [show (1000000 : Int32) = nI 1000000 from rfl, nI_leI (by omega) (by omega)]; omega
  have c2 : ¬ nI (st.length + 1) ≤ 0 := by rw [show (0 : Int32) = nI 0 from rfl, nI_leI (by omega) (by omega)]; omega
  refine ⟨fun B3 r e => ?_, fun e => ?_⟩
  · obtain ⟨w2, o1, o2, o3⟩ := m1 B3 r e
    have mk := mkB_ok G hv e
    have hr : r < 1000 := by have := mk.1.1; have := mk.2.2.1; omega
    have f2 : Fr blS blA w (pA w2 33 (upd (aI w2 33) x (nI r))) := o3.bl.pa (k := 33) rfl
    refine ⟨pA w2 33 (upd (aI w2 33) x (nI r)), fun f => ?_, f2, ?_, o2.k (S := noS) (A := fun k => k == 33) ((Fr.rf w2).pa (k := 33) rfl), fun z hz => ?_⟩
    · rw [key]
      unfold bX1_build_20 bX1_build_97
      rw [if_neg c1, if_neg c2, show nI (st.length + 1) - 1 = nI st.length from nI_pred _, ld_n hl (by omega), sa.1, hu, cl_s, if_pos rfl, hm, o1, cl_s, st_n (by omega) (by omega), ld_n (by omega) (by omega)]
      rw [show aI (pA w2 33 (upd (aI w2 33) x (nI r))) 33 x = nI r from upd_s, if_neg (nI_m4 (by omega))]
      rw [nI_m]
      simp only [c_nm]
      rw [nI_1]
    · show aI w2 34 = aI w 34
      exact (o3.2.1 34 (by omega)).1
    · show upd (aI w2 33) x (nI r) z = _
      by_cases e2 : z = x
      · rw [e2, upd_s, fu_s, eN_n (by omega)]
      · rw [upd_n e2, fu_n e2, (o3.2.1 33 (by omega)).1]
        exact bw z hz
  · have o1 := m2 e
    have f2 : Fr blS blA w (pA w 33 (upd (aI w 33) x (-4))) := (Fr.rf w).pa (k := 33) rfl
    refine ⟨pA w 33 (upd (aI w 33) x (-4)), fun f => ?_, f2, R.k (S := noS) (A := fun k => k == 33) ((Fr.rf w).pa (k := 33) rfl)⟩
    rw [key]
    unfold bX1_build_20
    rw [if_neg c1, if_neg c2, show nI (st.length + 1) - 1 = nI st.length from nI_pred _, ld_n hl (by omega), sa.1, hu, cl_s, if_pos rfl, hm, o1, cl_s, st_n (by omega) (by omega), ld_n (by omega) (by omega)]
    rw [show aI (pA w 33 (upd (aI w 33) x (-4))) 33 x = -4 from upd_s, if_pos rfl]
/-- arities of the nodes -/
def TA (n : Nat) (hd f1 f2 : Nat → Nat) (B : Bk) : Prop := ∀ x, 8 ≤ x → x < n → hd x < sB B ∧ (1 ≤ arB B (hd x) ↔ f1 x ≠ 2000) ∧ (2 ≤ arB B (hd x) ↔ f2 x ≠ 2000)
theorem TA.ext {n : Nat} {hd f1 f2 : Nat → Nat} {B B2 : Bk} (h : TA n hd f1 f2 B) (e : Ext B B2) : TA n hd f1 f2 B2 := by
  unfold TA
  rw [e.2.1, e.2.2.1]
  exact h
def NuW (T : Tr) (num : Nat → Nat) (w : Wd) : Prop := ∀ u, u ∈ vs T → num u < 8 ∧ aI w 31 u = nI (num u)
theorem NuW.k {S A : Nat → Bool} {T : Tr} {num : Nat → Nat} {w w2 : Wd} (h : NuW T num w) (f : Fr S A w w2) (a : A 31 = false := by rfl) : NuW T num w2 := by
  unfold NuW
  rw [(f.2 31 a).1]
  exact h
def BldG (N D n : Nat) (f1 f2 bc : Nat → Nat) (T : Nat → Tr) (num : Nat → Nat) (x : Nat) (st : List Nat) (b : Nat → Nat) (B : Bk) (w : Wd) (lk : Nat) (xw : Int32) : Prop :=
  (∀ B2 r, bt (nmT num (T x)) B = some (B2, r) → ∃ j b2 w2, (∀ f, fX1_build_20 N D (f + j) w xw (nI (st.length + 1)) (nI lk) = fX1_build_20 N D f w2 xw (nI st.length) (nI (lk + j))) ∧
    Fr blS blA w w2 ∧ (∀ i, i < st.length → aI w2 34 i = aI w 34 i) ∧ RB B2 w2 ∧ BW n b2 w2 ∧ BI n f1 f2 bc T num b2 B2 ∧ b2 x = r ∧ (∀ y, b y ≠ 2000 → b2 y = b y) ∧ (∀ y, b2 y ≠ b y → tht (T y) ≤ tht (T x)) ∧ j + 2 * cV b2 n + 1 ≤ 2 * cV b n) ∧
  (bt (nmT num (T x)) B = none → ∃ j w2 B2, (∀ f, fX1_build_20 N D (f + j) w xw (nI (st.length + 1)) (nI lk) = some (w2, -4)) ∧ Fr blS blA w w2 ∧ RB B2 w2 ∧ GB B2 ∧ Ext B B2 ∧ j ≤ 2 * cV b n + tht (T x))
theorem BI.le {n : Nat} {f1 f2 bc : Nat → Nat} {T : Nat → Tr} {num b : Nat → Nat} {B : Bk} (G : GB B) (h : BI n f1 f2 bc T num b B) : ∀ x, x < n → b x ≤ 2000 := fun x hx => by
  have g1 := G.1
  by_cases q : b x = 2000
  · omega
  · have := (h x hx q).1
    omega
/-- how many nodes are no higher than k -/
def hcT (T : Nat → Tr) (k : Nat) : Nat → Nat
  | 0 => 0
  | n + 1 => hcT T k n + (if tht (T n) ≤ k then 1 else 0)
theorem hcT_le {T : Nat → Tr} {k : Nat} : ∀ n, hcT T k n ≤ n := by
  intro n
  induction n with
  | zero => exact Nat.le_refl _
  | succ n ih => unfold hcT; split <;> omega
theorem hcT_mn {T : Nat → Tr} {k : Nat} : ∀ n, hcT T k n ≤ hcT T (k + 1) n := by
  intro n
  induction n with
  | zero => exact Nat.le_refl _
  | succ n ih =>
    unfold hcT
    by_cases q : tht (T n) ≤ k
    · rw [if_pos q, if_pos (by omega)]; omega
    · rw [if_neg q]; omega
theorem hcT_lt {T : Nat → Tr} {k x : Nat} (hx : tht (T x) = k + 1) : ∀ n, x < n → hcT T k n + 1 ≤ hcT T (k + 1) n := by
  intro n
  induction n with
  | zero => intro h; omega
  | succ n ih =>
    intro h
    unfold hcT
    by_cases e : x = n
    · rw [← e, if_neg (by omega), if_pos (by omega)]
      have := hcT_mn (T := T) (k := k) x
      omega
    · have := ih (by omega)
      by_cases q : tht (T n) ≤ k
      · rw [if_pos q, if_pos (by omega)]; omega
      · rw [if_neg q]; omega
/-- no tree of a sheet is higher than the sheet is large -/
theorem TS.ht {n : Nat} {hd f1 f2 bc : Nat → Nat} {T : Nat → Tr} (ts : TS n hd f1 f2 bc T) {x : Nat} (hx : x < n) : tht (T x) ≤ n := by
  obtain ⟨t1, t2, t3, t4, hn⟩ := ts
  have t5 : tht (T 2000) = 0 := by rw [t4]; rfl
  have key : ∀ k x, x < n → tht (T x) = k → k ≤ hcT T k n := by
    intro k
    induction k with
    | zero => intro x _ _; exact Nat.zero_le _
    | succ k ih =>
      intro x hx hk
      have lt := hcT_lt hk n hx
      by_cases k0 : k = 0
      · omega
      · obtain ⟨y1, y2, y3⟩ := t1 x hx
        have hy : tht (T (bc x)) = k + 1 := by rw [y3]; exact hk
        by_cases q : bc x < 8
        · rw [t2 _ y1 y2 q] at hy
          have : tht (vr (bc x)) = 1 := rfl
          omega
        · obtain ⟨e1, e2, e3⟩ := t3 _ y1 (by omega)
          rw [e1] at hy
          have hh : tht (nd (hd (bc x)) (T (f1 (bc x))) (T (f2 (bc x)))) = 1 + max (tht (T (f1 (bc x)))) (tht (T (f2 (bc x)))) := rfl
          rw [hh] at hy
          have one : ∃ c, c < n ∧ tht (T c) = k := by
            by_cases z : tht (T (f1 (bc x))) = k
            · refine ⟨f1 (bc x), ?_, z⟩
              rcases e2 with y | y
              · exact y
              · rw [y, t5] at z; omega
            · have z2 : tht (T (f2 (bc x))) = k := by omega
              refine ⟨f2 (bc x), ?_, z2⟩
              rcases e3 with y | y
              · exact y
              · rw [y, t5] at z2; omega
          obtain ⟨c, c1, c2⟩ := one
          have := ih c c1 c2
          omega
  have := key _ x hx rfl
  have := hcT_le (T := T) (k := tht (T x)) n
  omega
/-- the class's own make of a tree -/
theorem cBld {N d n : Nat} {hd f1 f2 bc : Nat → Nat} {T : Nat → Tr} {num : Nat → Nat} {xw : Int32} (hN : 2000000 ≤ N) (ts : TS n hd f1 f2 bc T) : ∀ k x st b B w lk, tht (T x) ≤ k → x < n → bc x = x → b x = 2000 → SA (x :: st) w → st.length + tht (T x) ≤ 158 → TW n hd f1 f2 bc w → BW n b w → BI n f1 f2 bc T num b B → GB B → RB B w → TA n hd f1 f2 B → WT (sB B) (arB B) (nmT num (T x)) → NuW (T x) num w → lk + 2 * cV b n + tht (T x) ≤ 2000 →
    BldG N (d + 3) n f1 f2 bc T num x st b B w lk xw := by
  have ts0 := ts
  obtain ⟨t1, t2, t3, t4, hn⟩ := ts
  intro k
  induction k with
  | zero =>
    intro x st b B w lk hk hx hbc
    exfalso
    by_cases q : x < 8
    · rw [t2 _ hx hbc q] at hk
      exact absurd hk (by show ¬ 1 ≤ 0; omega)
    · rw [(t3 _ hx (by omega)).1] at hk
      have : tht (nd (hd x) (T (f1 x)) (T (f2 x))) = 1 + max (tht (T (f1 x))) (tht (T (f2 x))) := rfl
      omega
  | succ k ih =>
    intro x st b B w lk hk hx hbc hbx sa hst tw bw bi G R ta wt nuw hlk
    by_cases x8 : x < 8
    · have tx := t2 x hx hbc x8
      have hh : tht (T x) = 1 := by rw [tx]; rfl
      have nu := nuw x (by rw [tx]; exact List.mem_singleton.mpr rfl)
      have et : nmT num (T x) = vr (num x) := by rw [tx]; rfl
      have cv := cV_upd (b := b) (r := 0) hbx (by omega) n hx
      obtain ⟨m1, m2⟩ := cBldFin (N := N) (d := d) (n := n) (x := x) (st := st) (b := b) (lk := lk) (xw := xw) hN hn hx (cUnbV x8) (cMakeV x8 nu.1 nu.2) G R (VN.var G nu.1) sa (by omega) bw (by omega)
      refine ⟨fun B2 r e => ?_, fun e => ?_⟩
      · have e0 := e
        rw [et, bt_vr] at e
        obtain ⟨w3, o1, o2, o3, o4, o5⟩ := m1 B2 r e
        obtain ⟨k1, k2, k3⟩ := bt_ok _ _ _ _ G wt e0
        have g2 := k1.1
        have cv := cV_upd (b := b) (r := r) hbx (by omega) n hx
        refine ⟨1, fu b x r, w3, o1, o2, fun i _ => congrFun o3 i, o4, o5, (bi.ext G k1 k2).add (by omega) ⟨k3, by rw [k2.2.1, k2.2.2.1]; exact wt, bt_st _ _ _ _ G wt e0 B2 k1 (Ext.rf B2)⟩ (fun z => absurd z (by omega)), fu_s, fun y hy => fu_n (fun e => hy (by rw [e]; exact hbx)), fun y hy => ?_, by omega⟩
        · by_cases e2 : y = x
          · rw [e2]; omega
          · rw [fu_n e2] at hy; exact absurd rfl hy
      · rw [et, bt_vr] at e
        obtain ⟨w3, o1, o2, o3⟩ := m2 e
        exact ⟨1, w3, B, o1, o2, o3, G, Ext.rf B, by omega⟩
    · obtain ⟨tx, e2, e3⟩ := t3 x hx (by omega)
      obtain ⟨a1, a2, a3⟩ := ta x (by omega) hx
      have et : nmT num (T x) = nd (hd x) (nmT num (T (f1 x))) (nmT num (T (f2 x))) := by rw [tx]; rfl
      have hh : tht (T x) = 1 + max (tht (T (f1 x))) (tht (T (f2 x))) := by rw [tx]; rfl
      have vss : vs (T x) = vs (T (f1 x)) ++ vs (T (f2 x)) := by rw [tx]; rfl
      rw [et] at wt
      obtain ⟨wt1, wt2, wt3⟩ := wt
      have wtx : WT (sB B) (arB B) (nmT num (T x)) := by rw [et]; exact ⟨wt1, wt2, wt3⟩
      -- one part, made if it is not
      have ph : ∀ y b B w lk, (y < n ∨ y = 2000) → tht (T y) ≤ k → tht (T y) + 1 ≤ tht (T x) → (∀ B2, Ext B B2 → y ≠ 2000 → WT (sB B2) (arB B2) (nmT num (T y))) → NuW (T y) num w → b x = 2000 → SA (x :: st) w → TW n hd f1 f2 bc w → BW n b w → BI n f1 f2 bc T num b B → GB B → RB B w → TA n hd f1 f2 B → lk + 2 * cV b n + tht (T x) ≤ 2000 →
          (y ≠ 2000 → b (bc y) = 2000 → eX1_unbuiltPart N (d + 3) w (nI x) = some (w, nI (bc y))) →
          (∃ j b1 B1 w1, (∀ f, fX1_build_20 N (d + 3) (f + j) w xw (nI (st.length + 1)) (nI lk) = fX1_build_20 N (d + 3) f w1 xw (nI (st.length + 1)) (nI (lk + j))) ∧ Fr blS blA w w1 ∧ SA (x :: st) w1 ∧ (∀ i, i < st.length → aI w1 34 i = aI w 34 i) ∧ RB B1 w1 ∧ GB B1 ∧ Ext B B1 ∧ BW n b1 w1 ∧ BI n f1 f2 bc T num b1 B1 ∧ b1 x = 2000 ∧
            (y ≠ 2000 → b1 (bc y) ≠ 2000 ∧ bt (nmT num (T y)) B = some (B1, b1 (bc y))) ∧ (y = 2000 → B1 = B) ∧ (∀ z, b z ≠ 2000 → b1 z = b z) ∧ (∀ z, b1 z ≠ b z → tht (T z) ≤ tht (T x)) ∧ j + 2 * cV b1 n ≤ 2 * cV b n) ∨
          (y ≠ 2000 ∧ bt (nmT num (T y)) B = none ∧ ∃ j w2 B2, (∀ f, fX1_build_20 N (d + 3) (f + j) w xw (nI (st.length + 1)) (nI lk) = some (w2, -4)) ∧ Fr blS blA w w2 ∧ RB B2 w2 ∧ GB B2 ∧ Ext B B2 ∧ j ≤ 2 * cV b n + tht (T x)) := by
        intro y b B w lk hy hk2 hk3 hw nuy hbx sa tw bw bi G R ta hlk hun
        by_cases q : y = 2000
        · exact Or.inl ⟨0, b, B, w, fun f => rfl, Fr.rf w, sa, fun _ _ => rfl, R, G, Ext.rf B, bw, bi, hbx, fun z => absurd q z, fun _ => rfl, fun _ _ => rfl, fun _ z => absurd rfl z, by omega⟩
        · have y1 := hy.resolve_right q
          obtain ⟨y2, y3, y4⟩ := t1 y y1
          by_cases q2 : b (bc y) = 2000
          · -- pushed, then made
            have un := hun q q2
            have key : ∀ f, fX1_build_20 N (d + 3) (f + 1) w xw (nI (st.length + 1)) (nI lk) = bX1_build_20 N (d + 3) (fX1_build_20 N (d + 3) f) w xw (nI (st.length + 1)) (nI lk) := fun f => rfl
            have c1 : ¬ (1000000 : Int32) ≤ nI lk := by rw [show (1000000 : Int32) = nI 1000000 from rfl, nI_leI (by omega) (by omega)]; omega
            have c2 : ¬ nI (st.length + 1) ≤ 0 := by rw [show (0 : Int32) = nI 0 from rfl, nI_leI (by omega) (by omega)]; omega
            have tpos : 1 ≤ tht (T y) := by
              rw [← y4]
              by_cases z : bc y < 8
              · rw [t2 _ y2 y3 z]; exact Nat.le_refl 1
              · rw [(t3 _ y2 (by omega)).1]; show 1 ≤ 1 + _; omega
            obtain ⟨w14, p1, p2, p3, p4⟩ := cPush (N := N) (d := d + 2) (y := bc y) (w := w) (st := x :: st) (by omega) (by rw [List.length_cons]; omega) sa
            rw [eN_n (by omega)] at p1
            have epz : ps (bc y) (x :: st) = bc y :: x :: st := by unfold ps; rw [if_neg (by omega)]
            rw [epz] at p1 p3
            have step : ∀ f, fX1_build_20 N (d + 3) (f + 1) w xw (nI (st.length + 1)) (nI lk) = fX1_build_20 N (d + 3) f w14 xw (nI ((x :: st).length + 1)) (nI (lk + 1)) := fun f => by
              have p1' : eX1_push N (d + 3) w (nI (bc y)) (nI (st.length + 1)) = some (w14, nI ((x :: st).length + 1)) := p1
              rw [key]
              unfold bX1_build_20 bX1_build_97
              rw [if_neg c1, if_neg c2, show nI (st.length + 1) - 1 = nI st.length from nI_pred _, ld_n (by omega) (by omega), sa.1, un, cl_s, if_neg (nI_m1 (by omega)), p1', cl_s]
              simp only [c_nm]
              rw [nI_1]
            have ty : nmT num (T (bc y)) = nmT num (T y) := by rw [y4]
            have cvp : 0 < cV b n := by
              have := cV_upd (b := b) (r := 0) q2 (by omega) n y2
              omega
            obtain ⟨s1, s2⟩ := ih (bc y) (x :: st) b B w14 (lk + 1) (by rw [y4]; exact hk2) y2 y3 q2 p3 (by rw [y4, List.length_cons]; omega) (tw.k p2) (fun z hz => by rw [(p2.2 33 rfl).1]; exact bw z hz) bi G (R.k p2) ta (by rw [ty]; exact hw B (Ext.rf B) q) (by rw [y4]; exact nuy.k p2) (by rw [y4]; omega)
            rw [ty] at s1 s2
            cases hb : bt (nmT num (T y)) B with
            | none =>
              obtain ⟨j, w2, B2, o1, o2, o3, o4, o5, o6⟩ := s2 hb
              exact Or.inr ⟨q, rfl, j + 1, w2, B2, fun f => by rw [show f + (j + 1) = f + j + 1 by omega, step]; exact o1 f, p2.sb.tr o2, o3, o4, o5, by rw [y4] at o6; omega⟩
            | some zz =>
              obtain ⟨B2, r⟩ := zz
              obtain ⟨j, b2, w2, o1, o2, o3, o4, o5, o6, o7, o8, o9, o10⟩ := s1 B2 r hb
              obtain ⟨k1, k2, k3⟩ := bt_ok _ _ _ _ G (hw B (Ext.rf B) q) hb
              have g2 := k1.1
              have kp : ∀ i, i < (x :: st).length → aI w2 34 i = aI w 34 i := fun i hi => by rw [o3 i hi, p4 i hi]
              have kept : b2 x = 2000 := by
                apply Decidable.byContradiction
                intro z
                have := o9 x (by rw [hbx]; exact z)
                rw [y4] at this
                omega
              refine Or.inl ⟨j + 1, b2, B2, w2, fun f => ?_, p2.sb.tr o2, SA.k _ kp sa, fun i hi => kp i (by rw [List.length_cons]; omega), o4, k1, k2, o5, o6, kept, fun _ => ⟨by rw [o7]; omega, by rw [o7]⟩, fun z => absurd z q, o8, fun z hz => ?_, by omega⟩
              · rw [show f + (j + 1) = f + j + 1 by omega, step, o1]
                rw [show lk + 1 + j = lk + (j + 1) by omega]
                rfl
              · have := o9 z hz
                rw [y4] at this
                omega
          · have bb := bi _ y2 q2
            rw [y4] at bb
            exact Or.inl ⟨0, b, B, w, fun f => rfl, Fr.rf w, sa, fun _ _ => rfl, R, G, Ext.rf B, bw, bi, hbx, fun _ => ⟨q2, bb.2.2.1⟩, fun z => absurd z q, fun _ _ => rfl, fun _ z => absurd rfl z, by omega⟩
      have un0 := cUnb (N := N) (d := d + 1) ts0 tw bw (bi.le G) hx (by omega : 8 ≤ x)
      have g1 := G.1
      rcases ph (f1 x) b B w lk e2 (by omega) (by omega) (fun B2 e z => by rw [e.2.1, e.2.2.1]; exact wt2 (a2.mpr z)) (fun u hu => nuw u (by rw [vss]; exact List.mem_append.mpr (Or.inl hu))) hbx sa tw bw bi G R ta hlk (fun z1 z2 => by
        have : eX1_unbuiltPart N (d + 3) w (nI x) = _ := un0
        rw [this, if_pos ⟨z1, z2⟩]) with P1 | ⟨z1, z2, j, w2, B2, z3, z4, z5, z6, z7, z8⟩
      · obtain ⟨j1, b1, B1, w1, p1, p2, p3, p4, p5, p6, p7, p8, p9, p10, p11, p12, p13, p14, p15⟩ := P1
        have ua := cUnb (N := N) (d := d + 1) ts0 (tw.k p2) p8 (p9.le p6) hx (by omega : 8 ≤ x)
        have bta1 : f1 x = 2000 → ¬ 1 ≤ arB B (hd x) := fun z y => (a2.mp y) z
        rcases ph (f2 x) b1 B1 w1 (lk + j1) e3 (by omega) (by omega) (fun B2 e z => by rw [e.2.1, e.2.2.1, p7.2.1, p7.2.2.1]; exact wt3 (a3.mpr z)) (NuW.k (show NuW (T (f2 x)) num w from fun u hu => nuw u (by rw [vss]; exact List.mem_append.mpr (Or.inr hu))) p2) p10 p3 (tw.k p2) p8 p9 p6 p5 (ta.ext p7) (by omega) (fun z1 z2 => by
          have : eX1_unbuiltPart N (d + 3) w1 (nI x) = _ := ua
          rw [this, if_neg (fun y => (p11 y.1).1 y.2), if_pos ⟨z1, z2⟩]) with P2 | ⟨z1, z2, j, w2, B2, z3, z4, z5, z6, z7, z8⟩
        · obtain ⟨j2, b2, B2, w2, q1, q2, q3, q4, q5, q6, q7, q8, q9, q10, q11, q12, q13, q14, q15⟩ := P2
          have fr2 : Fr blS blA w w2 := p2.tr q2
          have ub := cUnb (N := N) (d := d + 1) ts0 (tw.k fr2) q8 (q9.le q6) hx (by omega : 8 ≤ x)
          have ext2 := p7.tr q7
          have r1 : f1 x ≠ 2000 → b2 (bc (f1 x)) = b1 (bc (f1 x)) := fun z => q13 _ (p11 z).1
          have ub' : eX1_unbuiltPart N (d + 3) w2 (nI x) = some (w2, -1) := by
            have : eX1_unbuiltPart N (d + 3) w2 (nI x) = _ := ub
            rw [this, if_neg (fun y => (p11 y.1).1 (by rw [← r1 y.1]; exact y.2)), if_neg (fun y => (q11 y.1).1 y.2)]
          -- what is made
          have E : bt (nmT num (T x)) B = mkB B2 (hd x) (if f1 x = 2000 then 2000 else b2 (bc (f1 x))) (if f2 x = 2000 then 2000 else b2 (bc (f2 x))) := by
            rw [et, bt_nd]
            by_cases n1 : f1 x = 2000
            · have n2 : f2 x = 2000 := by
                apply Decidable.byContradiction
                intro z
                have := a3.mpr z
                exact bta1 n1 (by omega)
              rw [if_neg (bta1 n1), if_pos n1, if_pos n2, q12 n2, p12 n1]
            · rw [if_pos (a2.mpr n1), (p11 n1).2, if_neg n1]
              simp only []
              by_cases n2 : f2 x = 2000
              · rw [if_neg (fun z => a3.mp z n2), if_pos n2, q12 n2, r1 n1]
              · rw [if_pos (a3.mpr n2), (q11 n2).2, if_neg n2, r1 n1]
          have hv : VN B2 (hd x) (if f1 x = 2000 then 2000 else b2 (bc (f1 x))) (if f2 x = 2000 then 2000 else b2 (bc (f2 x))) := by
            refine ⟨Or.inl (by rw [ext2.2.1]; exact a1), ?_, ?_⟩
            · rw [ext2.2.2.1]
              by_cases n1 : f1 x = 2000
              · rw [if_neg (bta1 n1), if_pos n1]
              · rw [if_pos (a2.mpr n1), if_neg n1]
                exact (q9 _ (t1 _ (e2.resolve_right n1)).1 (by rw [r1 n1]; exact (p11 n1).1)).1
            · rw [ext2.2.2.1]
              by_cases n2 : f2 x = 2000
              · rw [if_neg (fun z => a3.mp z n2), if_pos n2]
              · rw [if_pos (a3.mpr n2), if_neg n2]
                exact (q9 _ (t1 _ (e3.resolve_right n2)).1 (q11 n2).1).1
          obtain ⟨m1, m2⟩ := cBldFin (N := N) (d := d) (n := n) (x := x) (st := st) (b := b2) (lk := lk + j1 + j2) (xw := xw) hN hn hx ub' (cMakeOf ts0 (tw.k fr2) q8 hx (by omega)) q6 q5 hv q3 (by omega) q8 (by omega)
          refine ⟨fun B3 r e0 => ?_, fun e => ?_⟩
          · have e := e0
            rw [E] at e
            obtain ⟨w3, o1, o2, o3, o4, o5⟩ := m1 B3 r e
            obtain ⟨k1, k2, k3⟩ := mkB_ok q6 hv e
            have g3 := k1.1
            have cv := cV_upd (b := b2) (r := r) q10 (by omega) n hx
            refine ⟨1 + j2 + j1, fu b2 x r, w3, fun f => ?_, fr2.tr o2, fun i hi => ?_, o4, o5, (q9.ext q6 k1 k2).add (by omega) ⟨k3.1, by rw [k2.2.1, k2.2.2.1, ext2.2.1, ext2.2.2.1]; exact wtx, bt_st _ _ _ _ G wtx e0 B3 k1 (Ext.rf B3)⟩ (fun _ => ⟨fun z => by rw [r1 z]; exact (p11 z).1, fun z => (q11 z).1⟩), fu_s, fun y hy => ?_, fun y hy => ?_, by omega⟩
            · rw [show f + (1 + j2 + j1) = f + 1 + j2 + j1 by omega, p1, q1, o1]
              rw [show lk + j1 + j2 + 1 = lk + (1 + j2 + j1) by omega]
            · rw [o3, q4 i hi, p4 i hi]
            · have hy1 := p13 y hy
              rw [fu_n (fun e => hy (by rw [e]; exact hbx)), q13 y (by rw [hy1]; exact hy), hy1]
            · by_cases e2 : y = x
              · rw [e2]; omega
              · rw [fu_n e2] at hy
                by_cases e3 : b1 y = b y
                · exact q14 y (by rw [e3]; exact hy)
                · exact p14 y e3
          · rw [E] at e
            obtain ⟨w3, o1, o2, o3⟩ := m2 e
            have cv := cV_upd (b := b2) (r := 0) q10 (by omega) n hx
            refine ⟨1 + j2 + j1, w3, B2, fun f => ?_, fr2.tr o2, o3, q6, ext2, by omega⟩
            rw [show f + (1 + j2 + j1) = f + 1 + j2 + j1 by omega, p1, q1, o1]
        · have cv := cV_upd (b := b1) (r := 0) p10 (by omega) n hx
          refine ⟨fun B3 r e => ?_, fun _ => ⟨j + j1, w2, B2, fun f => ?_, p2.tr z4, z5, z6, p7.tr z7, ?_⟩⟩
          · exfalso
            have n2 := a3.mpr z1
            rw [et, bt_nd, if_pos (by omega), (p11 (a2.mp (by omega))).2] at e
            simp only [] at e
            rw [if_pos n2, z2] at e
            cases e
          · rw [show f + (j + j1) = f + j + j1 by omega, p1, z3]
          · have cv2 := cV_upd (b := b1) (r := 0) p10 (by omega) n hx
            omega
      · refine ⟨fun B3 r e => ?_, fun _ => ⟨j, w2, B2, z3, z4, z5, z6, z7, ?_⟩⟩
        · exfalso
          rw [et, bt_nd, if_pos (a2.mpr z1), z2] at e
          cases e
        · omega
/-- a tree with its parts made -/
theorem cBuild {N d n : Nat} {hd f1 f2 bc : Nat → Nat} {T : Nat → Tr} {num b : Nat → Nat} {B : Bk} {w : Wd} {root : Nat} (hN : 2000000 ≤ N) (ts : TS n hd f1 f2 bc T) (hr : root < n) (hh : tht (T root) ≤ 310) (tw : TW n hd f1 f2 bc w) (bw : BW n b w) (bi : BI n f1 f2 bc T num b B) (G : GB B) (R : RB B w) (ta : TA n hd f1 f2 B) (wt : WT (sB B) (arB B) (nmT num (T root))) (nuw : NuW (T root) num w) :
    (∀ B2 r, bt (nmT num (T root)) B = some (B2, r) → ∃ b2 w2, eX1_build N (d + 4) w (nI root) = some (w2, nI r) ∧ Fr blS blA w w2 ∧ RB B2 w2 ∧ BW n b2 w2 ∧ BI n f1 f2 bc T num b2 B2) ∧
    (bt (nmT num (T root)) B = none → ∃ w2 B2, eX1_build N (d + 4) w (nI root) = some (w2, -4) ∧ Fr blS blA w w2 ∧ RB B2 w2 ∧ GB B2 ∧ Ext B B2) := by
  have hn := ts.2.2.2.2
  have g1 := G.1
  obtain ⟨y2, y3, y4⟩ := ts.1 root hr
  rw [← y4] at hh wt nuw ⊢
  obtain ⟨w1, p1, p2, p3, p4⟩ := cPush (N := N) (d := d + 2) (y := bc root) (w := w) (st := []) (by omega) (by decide) trivial
  rw [eN_n (by omega)] at p1
  have epz : ps (bc root) [] = [bc root] := by unfold ps; rw [if_neg (by omega)]
  rw [epz] at p1 p3
  have key : eX1_build N (d + 4) w (nI root) = fX1_build_20 N (d + 3) N w1 (nI (bc root)) (nI (([] : List Nat).length + 1)) (nI 0) := by
    have k0 : eX1_build N (d + 4) w (nI root) = bX1_build_0 N (d + 3) w (nI root) := rfl
    have p1' : eX1_push N (d + 3) w (nI (bc root)) 0 = some (w1, nI 1) := p1
    rw [k0]
    unfold bX1_build_0
    rw [ld_n (by omega) (by omega), tw.1 root hr, p1', cl_s]
    rfl
  have done : ∀ w2 b2 r j f, BW n b2 w2 → b2 (bc root) = r → r < 2000 → j ≤ 2000 → fX1_build_20 N (d + 3) (f + 1) w2 (nI (bc root)) (nI ([] : List Nat).length) (nI j) = some (w2, nI r) := fun w2 b2 r j f bw2 e hr2 hj => by
    have k1 : fX1_build_20 N (d + 3) (f + 1) w2 (nI (bc root)) (nI ([] : List Nat).length) (nI j) = bX1_build_20 N (d + 3) (fX1_build_20 N (d + 3) f) w2 (nI (bc root)) (nI 0) (nI j) := rfl
    rw [k1]
    unfold bX1_build_20 bX1_build_103
    rw [if_neg (by rw [show (1000000 : Int32) = nI 1000000 from rfl, nI_leI (by omega) (by omega)]; omega), if_pos (by decide), ld_n (by omega) (by omega), bw2 _ y2, e, eN_n hr2]
  have tw1 := tw.k p2
  have bw1 : BW n b w1 := fun z hz => by rw [(p2.2 33 rfl).1]; exact bw z hz
  rw [key]
  by_cases q : b (bc root) = 2000
  · have cv := cV_le (b := b) n
    have hht := ts.ht y2
    obtain ⟨s1, s2⟩ := cBld (N := N) (d := d) (num := num) (xw := nI (bc root)) hN ts (tht (T (bc root))) (bc root) [] b B w1 0 (Nat.le_refl _) y2 y3 q p3 (by show 0 + _ ≤ 158; omega) tw1 bw1 bi G (R.k p2) ta wt (nuw.k p2) (by omega)
    refine ⟨fun B2 r e => ?_, fun e => ?_⟩
    · obtain ⟨j, b2, w2, o1, o2, o3, o4, o5, o6, o7, o8, o9, o10⟩ := s1 B2 r e
      have k := bt_ok _ _ _ _ G wt e
      have g2 := k.1.1
      obtain ⟨f, hf⟩ : ∃ f, N = f + 1 + j := ⟨N - j - 1, by omega⟩
      have := o1 (f + 1)
      rw [← hf] at this
      refine ⟨b2, w2, ?_, p2.sb.tr o2, o4, o5, o6⟩
      rw [this]
      exact done w2 b2 r _ f o5 o7 (by omega) (by omega)
    · obtain ⟨j, w2, B2, o1, o2, o3, o4, o5, o6⟩ := s2 e
      have := o1 (N - j)
      rw [show N - j + j = N by omega] at this
      exact ⟨w2, B2, this, p2.sb.tr o2, o3, o4, o5⟩
  · obtain ⟨i1, i2, i3, i4⟩ := bi _ y2 q
    have fin : ∀ h ra rb, VN B h ra rb → eX1_unbuiltPart N (d + 3) w1 (nI (bc root)) = some (w1, -1) → eX1_makeOf N (d + 3) w1 (nI (bc root)) = eX8_make N (d + 2) w1 (nI h) (eN ra) (eN rb) → bt (nmT num (T (bc root))) B = mkB B h ra rb →
        (∀ B2 r, bt (nmT num (T (bc root))) B = some (B2, r) → ∃ b2 w2, fX1_build_20 N (d + 3) N w1 (nI (bc root)) (nI (([] : List Nat).length + 1)) (nI 0) = some (w2, nI r) ∧ Fr blS blA w w2 ∧ RB B2 w2 ∧ BW n b2 w2 ∧ BI n f1 f2 bc T num b2 B2) := fun h ra rb hv hu hm eb B2 r e => by
      obtain ⟨m1, _⟩ := cBldFin (N := N) (d := d) (n := n) (x := bc root) (st := []) (b := b) (lk := 0) (xw := nI (bc root)) hN hn y2 hu hm G (R.k p2) hv p3 (by decide) bw1 (by omega)
      have e1 := e
      rw [eb] at e1
      obtain ⟨w3, o1, o2, o3, o4, o5⟩ := m1 B2 r e1
      rw [i3] at e
      cases e
      obtain ⟨f, hf⟩ : ∃ f, N = f + 1 + 1 := ⟨N - 2, by omega⟩
      have := o1 (f + 1)
      rw [← hf] at this
      refine ⟨fu b (bc root) (b (bc root)), w3, ?_, p2.sb.tr o2, o4, o5, bi.add q ⟨i1, i2, i3⟩ i4⟩
      rw [this]
      exact done w3 _ _ _ f o5 fu_s (by omega) (by omega)
    refine ⟨?_, fun e => by rw [i3] at e; cases e⟩
    by_cases x8 : bc root < 8
    · have tx := ts.2.1 _ y2 y3 x8
      have nu := (NuW.k nuw p2) (bc root) (by rw [tx]; exact List.mem_singleton.mpr rfl)
      exact fin (10 + num (bc root)) 2000 2000 (VN.var G nu.1) (cUnbV x8) (cMakeV x8 nu.1 nu.2) (by rw [tx]; rfl)
    · obtain ⟨a1, a2, a3⟩ := ta _ (by omega) y2
      obtain ⟨tx, e2, e3⟩ := ts.2.2.1 _ y2 (by omega)
      obtain ⟨i5, i6⟩ := i4 (by omega)
      have ub := cUnb (N := N) (d := d + 1) ts tw1 bw1 (bi.le G) y2 (by omega : 8 ≤ bc root)
      have ub' : eX1_unbuiltPart N (d + 3) w1 (nI (bc root)) = some (w1, -1) := by
        have : eX1_unbuiltPart N (d + 3) w1 (nI (bc root)) = _ := ub
        rw [this, if_neg (fun y => i5 y.1 y.2), if_neg (fun y => i6 y.1 y.2)]
      have pt : ∀ y, y < n → b (bc y) ≠ 2000 → b (bc y) < nB B ∧ bt (nmT num (T y)) B = some (B, b (bc y)) := fun y hy z => by
        obtain ⟨u1, u2, u3, u4⟩ := bi _ (ts.1 y hy).1 z
        rw [(ts.1 y hy).2.2] at u3
        exact ⟨u1, u3⟩
      refine fin (hd (bc root)) (if f1 (bc root) = 2000 then 2000 else b (bc (f1 (bc root)))) (if f2 (bc root) = 2000 then 2000 else b (bc (f2 (bc root)))) ⟨Or.inl a1, ?_, ?_⟩ ub' (cMakeOf ts tw1 bw1 y2 (by omega)) ?_
      · by_cases n1 : f1 (bc root) = 2000
        · rw [if_neg (fun z => a2.mp z n1), if_pos n1]
        · rw [if_pos (a2.mpr n1), if_neg n1]
          exact (pt _ (e2.resolve_right n1) (i5 n1)).1
      · by_cases n2 : f2 (bc root) = 2000
        · rw [if_neg (fun z => a3.mp z n2), if_pos n2]
        · rw [if_pos (a3.mpr n2), if_neg n2]
          exact (pt _ (e3.resolve_right n2) (i6 n2)).1
      · have et : nmT num (T (bc root)) = nd (hd (bc root)) (nmT num (T (f1 (bc root)))) (nmT num (T (f2 (bc root)))) := by rw [tx]; rfl
        rw [et, bt_nd]
        by_cases n1 : f1 (bc root) = 2000
        · have n2 : f2 (bc root) = 2000 := by
            apply Decidable.byContradiction
            intro z
            have := a3.mpr z
            exact a2.mp (by omega) n1
          rw [if_neg (fun z => a2.mp z n1), if_pos n1, if_pos n2]
        · rw [if_pos (a2.mpr n1), (pt _ (e2.resolve_right n1) (i5 n1)).2, if_neg n1]
          simp only []
          by_cases n2 : f2 (bc root) = 2000
          · rw [if_neg (fun z => a3.mp z n2), if_pos n2]
          · rw [if_pos (a3.mpr n2), (pt _ (e3.resolve_right n2) (i6 n2)).2, if_neg n2]
