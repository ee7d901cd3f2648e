/-! the class lays a term -/
theorem lay_v : ∀ h, h < 18 → 10 ≤ h → ((nI h - 10) + nI 0 = nI (h - 10 + 0) ∧ (nI h - 10) + nI 4 = nI (h - 10 + 4)) := by decide
theorem PL.low {B : Bk} {s : Sht} {w : Wd} {z : Nat} {u v : Int32} : ∀ k x t p, z ≤ x → PL B s w k x t p → PL B s (pA (pA w 53 (upd (aI w 53) z u)) 54 (upd (aI w 54) z v)) k x t p := by
  intro k
  induction k with
  | zero => intro x t p _ _; trivial
  | succ k ih =>
    intro x t p hz h hs
    obtain ⟨h1, h2, h3, h4⟩ := h hs
    refine ⟨h1, h2, fun n1 sa => ?_, fun n2 sb => ?_⟩
    · obtain ⟨q1, q2, q3, q4⟩ := h3 n1 sa
      refine ⟨q1, ?_, ?_, ih _ _ _ (by omega) q4⟩
      · show upd (aI w 53) z u (x + 1) = _
        rw [upd_n (by omega)]; exact q2
      · show upd (aI w 54) z v (x + 1) = _
        rw [upd_n (by omega)]; exact q3
    · obtain ⟨q1, q2, q3, q4⟩ := h4 n2 sb
      refine ⟨q1, ?_, ?_, ih _ _ _ (by omega) q4⟩
      · show upd (aI w 53) z u (x + 1 + cs B (aB B t)) = _
        rw [upd_n (by omega)]; exact q2
      · show upd (aI w 54) z v (x + 1 + cs B (aB B t)) = _
        rw [upd_n (by omega)]; exact q3
theorem Agr.u51 {lo hi n y : Nat} {s : Sht} {w : Wd} {v : Int32} (h : n < lo ∨ hi ≤ n) : Agr lo hi s (tmS s, msS s, fu (f1S s) n y, f2S s) w (pA w 51 (upd (aI w 51) n v)) := fun x h1 h2 =>
  ⟨rfl, rfl, fu_n (by omega), rfl, rfl, upd_n (by omega), rfl, rfl, rfl, rfl, rfl⟩
theorem Agr.u52 {lo hi n y : Nat} {s : Sht} {w : Wd} {v : Int32} (h : n < lo ∨ hi ≤ n) : Agr lo hi s (tmS s, msS s, f1S s, fu (f2S s) n y) w (pA w 52 (upd (aI w 52) n v)) := fun x h1 h2 =>
  ⟨rfl, rfl, rfl, fu_n (by omega), rfl, rfl, upd_n (by omega), rfl, rfl, rfl, rfl⟩
def LayR (B : Bk) (k t m n : Nat) (p : Int64) (s s2 : Sht) (w w2 : Wd) (y : Nat) : Prop :=
  Fr laS laA w w2 ∧ sI w2 19 = nI (n + cs B t) ∧ Agr 0 n s s2 w w2 ∧ Chd B s2 n (n + cs B t) y t m ∧ y < 158 ∧ (hB B t < 10 → y = n) ∧ (∀ x, n ≤ x → x < n + cs B t → NdW B s2 n (n + cs B t) w2 x) ∧ PL B s2 w2 k n t p
def LayI (N D : Nat) (B : Bk) (k : Nat) : Prop := ∀ t m n lev p w s, RB B w → VT B t m → szB B t ≤ k → lev + k ≤ 31 → 8 ≤ n → n + cs B t ≤ 158 → sI w 19 = nI n →
  ∃ w2 s2 y, eX5_lay N D w (nI t) (nI m) p (nI lev) = some (w2, nI y) ∧ LayR B k t m n p s s2 w w2 y
theorem cLayPart {N D k : Nat} {B : Bk} (G : GB B) (ih : LayI N (D + 1) B k) {c m n lev x0 : Nat} {i : Int32} {w : Wd} {s : Sht} (R : RB B w) (hvt : VT B c m) (hs : szB B c ≤ k) (hl : lev + 1 + k ≤ 31) (h8 : 8 ≤ n) (hx0 : x0 < n) (hn : n + cs B c ≤ 158) (h19 : sI w 19 = nI n) :
    ∃ w2 s2 y, eX5_layPart N (D + 2) w (nI x0) (eN c) i (nI m) (nI lev) = some (w2, nI y) ∧ LayR B k c m n (blw (aL w 55 x0) i) s s2 w w2 y ∧ (hB B c < 10 → aI w2 53 n = nI x0 ∧ aI w2 54 n = i) := by
  have g1 := G.1
  have hc := hvt.1
  have key : eX5_layPart N (D + 2) w (nI x0) (eN c) i (nI m) (nI lev) = bX5_layPart_0 N (D + 1) (eX5_lay N (D + 1)) w (nI x0) (eN c) i (nI m) (nI lev) := rfl
  rw [key]
  unfold bX5_layPart_0 bX5_layPart_53
  rw [eN_n (by omega), if_neg (nI_m1 (by omega)), ll_n (by omega) (by omega), cPlace, cl_s, nI_1]
  obtain ⟨w2, s2, y, e, r1, r2, r3, r4, r5, r6, r7, r8⟩ := ih c m n (lev + 1) (blw (aL w 55 x0) i) w s R hvt hs (by omega) h8 hn h19
  rw [e, cl_s]
  have hal := G.a_le hc
  by_cases q : hB B c < 10
  · have hy := r6 q
    subst hy
    rw [if_neg (by rw [show (8 : Int32) = nI 8 from rfl, nI_ltI (by omega) (by omega)]; omega), st_n (by omega) (by omega), st_n (by omega) (by omega)]
    refine ⟨_, s2, y, rfl, ⟨(r1.pa (k := 53) rfl).pa (k := 54) rfl, r2, ?_, r4, r5, r6, r7, PL.low _ _ _ _ (Nat.le_refl _) r8⟩, fun _ => ⟨upd_s, upd_s⟩⟩
    intro x h1 h2
    obtain ⟨b1, b2, b3, b4, b5, b6, b7, b8, b9, b10, b11⟩ := r3 x h1 h2
    exact ⟨b1, b2, b3, b4, b5, b6, b7, (upd_n (by omega)).trans b8, (upd_n (by omega)).trans b9, b10, b11⟩
  · have hy : y = hB B c - 10 + m := by
      rcases r4 with z | z
      · exact z.2
      · exact absurd z.1 q
    have := (VT.pa G hvt).2.2 (by omega)
    rw [if_pos (by rw [show (8 : Int32) = nI 8 from rfl, nI_ltI (by omega) (by omega)]; omega)]
    exact ⟨w2, s2, y, rfl, ⟨r1, r2, r3, r4, r5, r6, r7, r8⟩, fun z => absurd z q⟩
/-- a part that may not be there -/
theorem cLayMay {N D k : Nat} {B : Bk} (G : GB B) (ih : LayI N (D + 1) B k) {has : Prop} [Decidable has] {c m n lev x0 : Nat} {i : Int32} {w : Wd} {s : Sht} (R : RB B w) (hh : has → VT B c m ∧ szB B c ≤ k) (hno : ¬ has → c = 2000) (hl : lev + 1 + k ≤ 31) (h8 : 8 ≤ n) (hx0 : x0 < n) (hn : n + (if has then cs B c else 0) ≤ 158) (h19 : sI w 19 = nI n) :
    ∃ w2 s2 y, eX5_layPart N (D + 2) w (nI x0) (eN c) i (nI m) (nI lev) = some (w2, eN y) ∧ Fr laS laA w w2 ∧ sI w2 19 = nI (n + (if has then cs B c else 0)) ∧ Agr 0 n s s2 w w2 ∧
      (has → Chd B s2 n (n + (if has then cs B c else 0)) y c m) ∧ (¬ has → y = 2000) ∧ (∀ x, n ≤ x → x < n + (if has then cs B c else 0) → NdW B s2 n (n + (if has then cs B c else 0)) w2 x) ∧
      (has → hB B c < 10 → y = n ∧ aI w2 53 n = nI x0 ∧ aI w2 54 n = i ∧ PL B s2 w2 k n c (blw (aL w 55 x0) i)) := by
  by_cases q : has
  · rw [if_pos q] at hn ⊢
    obtain ⟨w2, s2, y, e, ⟨r1, r2, r3, r4, r5, r6, r7, r8⟩, r9⟩ := cLayPart G ih (i := i) (s := s) R (hh q).1 (hh q).2 hl h8 hx0 hn h19
    exact ⟨w2, s2, y, by rw [e, eN_n (by omega)], r1, r2, r3, fun _ => r4, fun z => absurd q z, r7, fun _ z => ⟨r6 z, (r9 z).1, (r9 z).2, r8⟩⟩
  · rw [if_neg q]
    refine ⟨w, s, 2000, ?_, Fr.rf w, h19, Agr.rf s w, fun z => absurd z q, fun _ => rfl, fun x h1 h2 => by omega, fun z => absurd z q⟩
    rw [hno q, eN_no]
    have key : eX5_layPart N (D + 2) w (nI x0) (-1) i (nI m) (nI lev) = bX5_layPart_0 N (D + 1) (eX5_lay N (D + 1)) w (nI x0) (-1) i (nI m) (nI lev) := rfl
    rw [key]
    unfold bX5_layPart_0
    rw [if_pos rfl]
theorem cLay {N : Nat} {B : Bk} (G : GB B) : ∀ k d, LayI N (d + 2 * k + 1) B k := by
  intro k
  induction k with
  | zero =>
    intro d t m n lev p w s R hvt hs
    have := (G.sz_le hvt.1).2.1
    omega
  | succ k ih =>
    intro d t m n lev p w s R hvt hs hl h8 hn h19
    have g1 := G.1
    have ht := hvt.1
    have hal := G.a_le ht
    have key : eX5_lay N (d + 2 * (k + 1) + 1) w (nI t) (nI m) p (nI lev) = bX5_lay_0 N (d + 2 * k + 2) (eX5_layPart N (d + 2 * k + 2)) w (nI t) (nI m) p (nI lev) := rfl
    rw [key]
    unfold bX5_lay_0 bX5_lay_43
    rw [cIsVar G R ht, cl_s]
    by_cases q : hB B t < 10
    · have ce := cs_eq G ht
      rw [if_pos q] at ce
      obtain ⟨M, m1, m2, m3⟩ := maskm R hvt
      rw [if_pos q, if_pos i00, if_neg (by rw [show (30 : Int32) = nI 30 from rfl, nI_ltI (by omega) (by omega)]; omega), h19, if_pos (by rw [show (158 : Int32) = nI 158 from rfl, nI_ltI (by omega) (by omega)]; omega)]
      simp only [c_nm, c_pi]
      rw [nI_1, ld_n (by omega) (by omega), st_n (by omega) (by omega), sl_n (by omega) (by omega), ld_n (by omega) (by omega), st_n (by omega) (by omega)]
      rw [show aI (pI w 19 (nI (n + 1))) 14 t = nI (hB B t) from (R.2.2.2.1 t ht).1]
      rw [show (aI (pB (pA (pI w 19 (nI (n + 1))) 50 (upd (aI (pI w 19 (nI (n + 1))) 50) n (nI (hB B t)))) 55 (vp_updL (aL (pA (pI w 19 (nI (n + 1))) 50 (upd (aI (pI w 19 (nI (n + 1))) 50) n (nI (hB B t)))) 55) n p)) 19 t) <<< (nI m &&& 31) = nI M from m2]
      have f9 : Fr laS laA w (pA (pB (pA (pI w 19 (nI (n + 1))) 50 (upd (aI (pI w 19 (nI (n + 1))) 50) n (nI (hB B t)))) 55 (vp_updL (aL (pA (pI w 19 (nI (n + 1))) 50 (upd (aI (pI w 19 (nI (n + 1))) 50) n (nI (hB B t)))) 55) n p)) 56 (upd (aI (pB (pA (pI w 19 (nI (n + 1))) 50 (upd (aI (pI w 19 (nI (n + 1))) 50) n (nI (hB B t)))) 55 (vp_updL (aL (pA (pI w 19 (nI (n + 1))) 50 (upd (aI (pI w 19 (nI (n + 1))) 50) n (nI (hB B t)))) 55) n p)) 56) n (nI M))) :=
        ((((Fr.rf w).pi (k := 19) rfl).pa (k := 50) rfl).pb (k := 55) rfl).pa (k := 56) rfl
      generalize hw9 : pA (pB (pA (pI w 19 (nI (n + 1))) 50 (upd (aI (pI w 19 (nI (n + 1))) 50) n (nI (hB B t)))) 55 (vp_updL (aL (pA (pI w 19 (nI (n + 1))) 50 (upd (aI (pI w 19 (nI (n + 1))) 50) n (nI (hB B t)))) 55) n p)) 56 (upd (aI (pB (pA (pI w 19 (nI (n + 1))) 50 (upd (aI (pI w 19 (nI (n + 1))) 50) n (nI (hB B t)))) 55 (vp_updL (aL (pA (pI w 19 (nI (n + 1))) 50 (upd (aI (pI w 19 (nI (n + 1))) 50) n (nI (hB B t)))) 55) n p)) 56) n (nI M)) = w9 at f9 ⊢
      have R9 : RB B w9 := R.k f9
      have e50 : aI w9 50 n = nI (hB B t) := by rw [← hw9]; exact upd_s
      have e55 : aL w9 55 n = p := by rw [← hw9]; exact updL_s
      have e56 : aI w9 56 n = nI M := by rw [← hw9]; exact upd_s
      have e19 : sI w9 19 = nI (n + 1) := by rw [← hw9]; rfl
      have A9 : Agr 0 n s (fu (tmS s) n t, fu (msS s) n m, f1S s, f2S s) w w9 := fun x h1 h2 => by
        rw [← hw9]
        exact ⟨fu_n (by omega), fu_n (by omega), rfl, rfl, upd_n (by omega), rfl, rfl, rfl, rfl, updL_n (by omega), upd_n (by omega)⟩
      have t9 : tmS (fu (tmS s) n t, fu (msS s) n m, f1S s, f2S s) n = t := fu_s
      have ms9 : msS (fu (tmS s) n t, fu (msS s) n m, f1S s, f2S s) n = m := fu_s
      generalize ((fu (tmS s) n t, fu (msS s) n m, f1S s, f2S s) : Sht) = s9 at A9 t9 ms9
      clear hw9
      have na := G.np ht
      have pa := VT.pa G hvt
      rw [ld_n (by omega) (by omega), (R9.2.2.2.1 t ht).2.1]
      obtain ⟨w11, s11, y1, e1, a1, a2, a3, a4, a5, a6, a7⟩ := cLayMay (has := 1 ≤ npB B t) (x0 := n) (n := n + 1) (c := aB B t) (m := m) (lev := lev) (i := 0) (s := s9) G (ih d) R9 (fun z => ⟨pa.1 z, by have := sz_a G ht hvt.2.1 z; omega⟩) (fun z => na.2.2.2.2.1 z) (by omega) (by omega) (by omega) (by omega) e19
      rw [e1, cl_s, st_n (by omega) (by omega)]
      rw [e55] at a7
      have A13 : Agr 0 n s11 (tmS s11, msS s11, fu (f1S s11) n y1, f2S s11) w11 (pA w11 51 (upd (aI w11 51) n (eN y1))) := Agr.u51 (Or.inr (Nat.le_refl _))
      have B13 : ∀ hi, Agr (n + 1) hi s11 (tmS s11, msS s11, fu (f1S s11) n y1, f2S s11) w11 (pA w11 51 (upd (aI w11 51) n (eN y1))) := fun hi => Agr.u51 (Or.inl (by omega))
      have F13 : Fr laS laA w9 (pA w11 51 (upd (aI w11 51) n (eN y1))) := a1.pa (k := 51) rfl
      have t13 : tmS (tmS s11, msS s11, fu (f1S s11) n y1, f2S s11) n = t ∧ msS (tmS s11, msS s11, fu (f1S s11) n y1, f2S s11) n = m ∧ f1S (tmS s11, msS s11, fu (f1S s11) n y1, f2S s11) n = y1 := by
        obtain ⟨b1, b2, b3, b4, b5, b6, b7, b8, b9, b10, b11⟩ := a3 n (by omega) (by omega)
        exact ⟨b1.trans t9, b2.trans ms9, fu_s⟩
      have v13 : aI (pA w11 51 (upd (aI w11 51) n (eN y1))) 50 n = nI (hB B t) ∧ aI (pA w11 51 (upd (aI w11 51) n (eN y1))) 51 n = eN y1 ∧ aL (pA w11 51 (upd (aI w11 51) n (eN y1))) 55 n = p ∧ aI (pA w11 51 (upd (aI w11 51) n (eN y1))) 56 n = nI M ∧ sI (pA w11 51 (upd (aI w11 51) n (eN y1))) 19 = nI (n + 1 + (if 1 ≤ npB B t then cs B (aB B t) else 0)) := by
        obtain ⟨b1, b2, b3, b4, b5, b6, b7, b8, b9, b10, b11⟩ := a3 n (by omega) (by omega)
        exact ⟨b5.trans e50, upd_s, b10.trans e55, b11.trans e56, a2⟩
      generalize pA w11 51 (upd (aI w11 51) n (eN y1)) = w13 at *
      generalize ((tmS s11, msS s11, fu (f1S s11) n y1, f2S s11) : Sht) = s13 at *
      have R13 : RB B w13 := R9.k F13
      rw [ld_n (by omega) (by omega), (R13.2.2.2.1 t ht).2.2.1]
      obtain ⟨w15, s15, y2, e2, c1, c2, c3, c4, c5, c6, c7⟩ := cLayMay (has := 2 ≤ npB B t) (x0 := n) (n := n + 1 + (if 1 ≤ npB B t then cs B (aB B t) else 0)) (c := bB B t) (m := m) (lev := lev) (i := 1) (s := s13) G (ih d) R13 (fun z => ⟨pa.2.1 z, by have := sz_b G ht hvt.2.1 z; omega⟩) (fun z => na.2.2.2.2.2 z) (by omega) (by omega) (by omega) (by omega) v13.2.2.2.2
      rw [e2, cl_s, st_n (by omega) (by omega)]
      rw [v13.2.2.1] at c7
      generalize hcA : (if 1 ≤ npB B t then cs B (aB B t) else 0) = cA at *
      generalize hcB : (if 2 ≤ npB B t then cs B (bB B t) else 0) = cB at *
      have A17 : ∀ lo hi, n < lo ∨ hi ≤ n → Agr lo hi s15 (tmS s15, msS s15, f1S s15, fu (f2S s15) n y2) w15 (pA w15 52 (upd (aI w15 52) n (eN y2))) := fun lo hi h => Agr.u52 h
      have F17 : Fr laS laA w (pA w15 52 (upd (aI w15 52) n (eN y2))) := (f9.tr (F13.tr c1)).pa (k := 52) rfl
      obtain ⟨b1, b2, b3, b4, b5, b6, b7, b8, b9, b10, b11⟩ := c3 n (by omega) (by omega)
      have v17 : tmS (tmS s15, msS s15, f1S s15, fu (f2S s15) n y2) n = t ∧ msS (tmS s15, msS s15, f1S s15, fu (f2S s15) n y2) n = m ∧ f1S (tmS s15, msS s15, f1S s15, fu (f2S s15) n y2) n = y1 ∧ f2S (tmS s15, msS s15, f1S s15, fu (f2S s15) n y2) n = y2 ∧
          aI (pA w15 52 (upd (aI w15 52) n (eN y2))) 50 n = nI (hB B t) ∧ aI (pA w15 52 (upd (aI w15 52) n (eN y2))) 51 n = eN y1 ∧ aI (pA w15 52 (upd (aI w15 52) n (eN y2))) 52 n = eN y2 ∧ aL (pA w15 52 (upd (aI w15 52) n (eN y2))) 55 n = p ∧ aI (pA w15 52 (upd (aI w15 52) n (eN y2))) 56 n = nI M ∧ sI (pA w15 52 (upd (aI w15 52) n (eN y2))) 19 = nI (n + 1 + cA + cB) :=
        ⟨b1.trans t13.1, b2.trans t13.2.1, b3.trans t13.2.2, fu_s, b5.trans v13.1, b6.trans v13.2.1, upd_s, b10.trans v13.2.2.1, b11.trans v13.2.2.2.1, c2⟩
      generalize pA w15 52 (upd (aI w15 52) n (eN y2)) = w17 at *
      generalize ((tmS s15, msS s15, f1S s15, fu (f2S s15) n y2) : Sht) = s17 at *
      obtain ⟨z1, z2, z3, z4, z5, z6, z7, z8, z9, z10⟩ := v17
      have hi : n + cs B t = n + 1 + cA + cB := by omega
      have LA : Agr (n + 1) (n + 1 + cA) s11 s17 w11 w17 := ((B13 _).tr (c3.mn (by omega) (Nat.le_refl _))).tr (A17 _ _ (Or.inl (by omega)))
      have LB : Agr (n + 1 + cA) (n + 1 + cA + cB) s15 s17 w15 w17 := A17 _ _ (Or.inl (by omega))
      refine ⟨w17, s17, n, rfl, F17, by rw [hi]; exact z10, ?_, Or.inr ⟨q, by omega, by omega, z1, z2⟩, by omega, fun _ => rfl, ?_, ?_⟩
      · exact (((A9.tr (a3.mn (by omega) (by omega))).tr A13).tr (c3.mn (by omega) (by omega))).tr (A17 _ _ (Or.inr (Nat.le_refl _)))
      · intro x h1 h2
        rw [hi] at h2 ⊢
        by_cases x1 : x = n
        · subst x1
          unfold NdW
          rw [z1, z2, z3, z4, z5, z6, z7, z9]
          refine ⟨hvt, q, fun u => ?_, a5, fun u => ?_, c5, rfl, rfl, rfl, M, m1, rfl, m3⟩
          · exact ((a4 u).agr LA).mn (by omega) (by omega)
          · exact ((c4 u).agr LB).mn (by omega) (by omega)
        · by_cases x2 : x < n + 1 + cA
          · exact ((a6 x (by omega) x2).agr ⟨by omega, x2⟩ LA).mn (by omega) (by omega)
          · exact ((c6 x (by omega) h2).agr ⟨by omega, h2⟩ LB).mn (by omega) (by omega)
      · intro _
        refine ⟨z8, z1, fun n1 sa => ?_, fun n2 sb => ?_⟩
        · rw [if_pos n1] at hcA
          have la := na.2.2.1 n1
          have ca := cs_eq G (t := aB B t) (by omega)
          rw [if_pos sa] at ca
          obtain ⟨p1, p2, p3, p4⟩ := a7 n1 sa
          obtain ⟨d1, d2, d3, d4, d5, d6, d7, d8, d9, d10, d11⟩ := LA (n + 1) (by omega) (by omega)
          exact ⟨z3.trans p1, d8.trans p2, d9.trans p3, PL.agr G LA _ _ _ _ (by omega) (by omega) (by omega) p4⟩
        · rw [if_pos (by omega)] at hcA
          rw [if_pos n2] at hcB
          have lb := na.2.2.2.1 n2
          have cb := cs_eq G (t := bB B t) (by omega)
          rw [if_pos sb] at cb
          obtain ⟨p1, p2, p3, p4⟩ := c7 n2 sb
          obtain ⟨d1, d2, d3, d4, d5, d6, d7, d8, d9, d10, d11⟩ := LB (n + 1 + cA) (by omega) (by omega)
          rw [hcA]
          exact ⟨z4.trans p1, d8.trans p2, d9.trans p3, PL.agr G LB _ _ _ _ (by omega) (by omega) (by omega) p4⟩
    · have c0 : cs B t = 0 := by rw [cs_eq G ht, if_neg q]
      have hx := (VT.pa G hvt).2.2 (by omega)
      rw [if_neg q, if_neg i10, ld_n (by omega) (by omega), (R.2.2.2.1 t ht).1]
      have ev : (nI (hB B t) - 10) + nI m = nI (hB B t - 10 + m) := by
        rcases hvt.2.2.2 with z | z
        · rw [z]; exact (lay_v _ hal.2.2 (by omega)).1
        · rw [z]; exact (lay_v _ hal.2.2 (by omega)).2
      rw [ev]
      refine ⟨w, s, hB B t - 10 + m, rfl, Fr.rf w, by rw [c0]; exact h19, Agr.rf s w, Or.inl ⟨by omega, rfl⟩, by omega, fun z => absurd z q, fun x h1 h2 => by omega, fun z => absurd z q⟩
