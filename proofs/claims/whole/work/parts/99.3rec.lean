/-! all places of a rule, in order -/
theorem mPart0O {N d : Nat} {B : Bk} {w : Wd} {t : Nat} (G : GB B) (R : RM B (pI w 4 0)) (ht : t < nB B) : eX11_partOf N (d + 1) w (nI t) 0 = some (w, eN (aB B t)) := by
  show bX11_partOf_0 N d w (nI t) 0 = _
  have g1 := G.1
  unfold bX11_partOf_0 bX11_partOf_19
  rw [if_pos rfl, ld_n (by omega) (by omega), show aI w 4 t = eN (aB B t) from (R.2.2.2.2.1 t ht).2.1]
theorem mPart1O {N d : Nat} {B : Bk} {w : Wd} {t : Nat} {i : Int32} (hi : ¬ i = 0) (G : GB B) (R : RM B (pI w 4 0)) (ht : t < nB B) : eX11_partOf N (d + 1) w (nI t) i = some (w, eN (bB B t)) := by
  show bX11_partOf_0 N d w (nI t) i = _
  have g1 := G.1
  unfold bX11_partOf_0 bX11_partOf_19
  rw [if_neg hi, ld_n (by omega) (by omega), show aI w 5 t = eN (bB B t) from (R.2.2.2.2.1 t ht).2.2.1]
theorem oMeet {N D c : Nat} {B0 : Bk} {w : Wd} {x1 x2 : Int32} {pl : Int64} (ov : OvB B0 w) (hc : c < nB B0) : eX11_meet N (D + 2) w x1 x2 (nI c) pl = some w := by
  obtain ⟨ho, B2, G2, e, rm⟩ := ov
  have key : eX11_meet N (D + 2) w x1 x2 (nI c) pl = bX11_meet_0 N (D + 1) (eX11_meet N (D + 1)) w x1 x2 (nI c) pl := rfl
  rw [key]
  unfold bX11_meet_0 bX11_meet_24
  rw [mIsVarO G2 rm (Nat.lt_of_lt_of_le hc e.1), cl_s]
  by_cases q : hB B2 c < 10
  · rw [if_pos q, if_pos i00]
    by_cases q2 : sI w 14 = 60
    · rw [if_pos q2]
    · rw [if_neg q2, if_neg ho]
  · rw [if_neg q, if_neg i10]
theorem oParts {N D t : Nat} {B0 : Bk} {w : Wd} {x1 x2 : Int32} {pl : Int64} (G0 : GB B0) (ov : OvB B0 w) (ht : t < nB B0) : ∀ r idx n, 2 - idx ≤ r → idx ≤ 2 → r < n → fX11_meet_215 N (D + 2) (eX11_meet N (D + 2)) n w x1 x2 (nI t) pl (nI idx) = some w := by
  have ov0 := ov
  obtain ⟨ho, B2, G2, e, rm⟩ := ov
  have ht2 : t < nB B2 := Nat.lt_of_lt_of_le ht e.1
  have et := e.2.2.2.2 t ht
  have np := G2.np ht2
  have np0 := G0.np ht
  have enp := e.np ht
  have g0 := G0.1
  intro r
  induction r with
  | zero =>
    intro idx n hr hi hn
    obtain ⟨n, rfl⟩ : ∃ n2, n = n2 + 1 := ⟨n - 1, by omega⟩
    have key : fX11_meet_215 N (D + 2) (eX11_meet N (D + 2)) (n + 1) w x1 x2 (nI t) pl (nI idx) = bX11_meet_215 N (D + 2) (eX11_meet N (D + 2)) (fX11_meet_215 N (D + 2) (eX11_meet N (D + 2)) n) w x1 x2 (nI t) pl (nI idx) := rfl
    rw [key]
    unfold bX11_meet_215
    rw [mPartsO G2 rm ht2, cl_s, if_pos (by rw [nI_leI (by omega) (by omega)]; omega)]
  | succ r ih =>
    intro idx n hr hi hn
    obtain ⟨n, rfl⟩ : ∃ n2, n = n2 + 1 := ⟨n - 1, by omega⟩
    have key : fX11_meet_215 N (D + 2) (eX11_meet N (D + 2)) (n + 1) w x1 x2 (nI t) pl (nI idx) = bX11_meet_215 N (D + 2) (eX11_meet N (D + 2)) (fX11_meet_215 N (D + 2) (eX11_meet N (D + 2)) n) w x1 x2 (nI t) pl (nI idx) := rfl
    rw [key]
    unfold bX11_meet_215
    rw [mPartsO G2 rm ht2, cl_s]
    by_cases q : npB B2 t ≤ idx
    · rw [if_pos (by rw [nI_leI (by omega) (by omega)]; exact q)]
    · rw [if_neg (by rw [nI_leI (by omega) (by omega)]; exact q)]
      have nx := ih (idx + 1) n (by omega) (by omega) (by omega)
      simp only [c_nm]
      by_cases z : idx = 0
      · subst z
        have h1 : 1 ≤ npB B0 t := by omega
        have la := np0.2.2.1 h1
        rw [show nI 0 = (0 : Int32) from rfl, mPart0O G2 rm ht2, cl_s, mBelow, cl_s, et.2.1, eN_n (by omega), oMeet ov0 (by omega), cv_s]
        exact nx
      · have h2 : 2 ≤ npB B0 t := by omega
        have lb := np0.2.2.2.1 h2
        rw [mPart1O (fun y => z ((nI_eq (a := idx) (b := 0) (by omega) (by omega)).mp y)) G2 rm ht2, cl_s, mBelow, cl_s, et.2.2.1, eN_n (by omega), oMeet ov0 (by omega), cv_s, nI_1]
        exact nx
abbrev TL (N dc i j n0 f : Nat) (w : Wd) (x : Nat) : Option (Wd × Int32) := fX1_tellOf_26 N (dc + 4) f w (nI i) (nI j) (nI n0) (nI x)
def Oc (N dc : Nat) (B0 : Bk) (s : Sht) (n0 st fs : Nat) (wc0 wm0 : Wd) (i j : Nat) (wc : Wd) (x c : Nat) (wm2 : Wd) : Prop :=
  ∃ wc2, (∃ B2 k2, (∀ f, TL N dc i j n0 (f + 1 + c) wc x = TL N dc i j n0 (f + 1) wc2 (x + c)) ∧ LI B0 s n0 st fs wc0 wm0 B2 k2 wc2 wm2) ∨ ((∀ f, TL N dc i j n0 (f + 1 + c) wc x = some (wc2, 0)) ∧ Ful B0 st wc0 wm0 wc2 wm2)
/-- the parts of a term, given its parts one by one -/
theorem tParts {N dc D : Nat} {B0 : Bk} {s : Sht} {n0 le yri ylj yrj i j fs st kq x t p : Nat} {R : Ru} {wc0 wm0 : Wd} {l : List (Nat × Nat)} (hN : 2000000 ≤ N) (cst : CS B0 s n0 le yri ylj yrj i j R wc0 wm0 fs st)
    (ih : ∀ l x t p B k wc wm, VT B0 t 0 → szB B0 t ≤ kq → (hB B0 t < 10 → Pth B0 s n0 (R.2.1 i) l x t p kq ∧ PL B0 s wc0 kq x t (lN p) ∧ Anc n0 (f1S s) (f2S s) wc0 l x ∧ tmS s x = t ∧ msS s x = 0 ∧ 8 ≤ x ∧ x + cs B0 t ≤ le ∧ ¬ (i = j ∧ p = 1)) → LI B0 s n0 st fs wc0 wm0 B k wc wm →
      ∃ wm2, eX11_meet N (D + 2) wm (nI i) (nI j) (nI t) (lN p) = some wm2 ∧ Oc N dc B0 s n0 st fs wc0 wm0 i j wc x (cs B0 t) wm2)
    (sw00 : SW B0 s n0 wc0) (hs : hB B0 t < 10) (pth : Pth B0 s n0 (R.2.1 i) l x t p (kq + 1)) (pl : PL B0 s wc0 (kq + 1) x t (lN p)) (anc : Anc n0 (f1S s) (f2S s) wc0 l x) (htm : tmS s x = t) (hms : msS s x = 0) (x8 : 8 ≤ x) (hle : x + cs B0 t ≤ le) {B : Bk} {k : Nat} {wc wm : Wd} (inv : LI B0 s n0 st fs wc0 wm0 B k wc wm) :
    ∃ wm2, bX11_meet_212 N (D + 2) (eX11_meet N (D + 2)) wm (nI i) (nI j) (nI t) (lN p) = some wm2 ∧ Oc N dc B0 s n0 st fs wc0 wm0 i j wc (x + 1) (cs B0 t - 1) wm2 := by
  have cst0 := cst
  obtain ⟨G0, gr, hi, hj, rr0, n9, n128, hlen, c6, c7, c8, c9, c18, hst, chri, chlj, chrj, y8, t8, m8⟩ := cst
  have g0 := G0.1
  have gi0 := (gr.vt (m := 0) hi (Or.inl rfl)).1
  obtain ⟨p1, p2, p3⟩ := pth.vt G0 gi0
  have vp := p1.pa G0
  have ht0 := p1.1
  have np := G0.np p1.1
  have ce := cs_eq G0 p1.1
  rw [if_pos hs] at ce
  have xn : x < n0 := by omega
  obtain ⟨d1, d2, d3, d4, d5, d6, d7⟩ := sw00 x x8 xn
  rw [htm, hms] at d3 d5
  rw [htm] at d4 d6
  obtain ⟨l1, l2, l3, l4⟩ := pl hs
  have e0 : blw (lN p) 0 = lN (3 * p + 0) := p3.bl (i := 0) (by omega)
  have e1 : blw (lN p) 1 = lN (3 * p + 1) := p3.bl (i := 1) (by omega)
  have pp := p3.1
  -- the first part
  have A : 1 ≤ npB B0 t → ∃ wm2, eX11_meet N (D + 2) wm (nI i) (nI j) (nI (aB B0 t)) (lN (3 * p + 0)) = some wm2 ∧ Oc N dc B0 s n0 st fs wc0 wm0 i j wc (x + 1) (cs B0 (aB B0 t)) wm2 := fun h1 => by
    have sa := sz_a G0 p1.1 p1.2.1 h1
    rw [if_pos h1] at ce
    refine ih ((x, 0) :: l) (x + 1) (aB B0 t) (3 * p + 0) B k wc wm (vp.1 h1) (by omega) (fun sg => ?_) inv
    obtain ⟨z1, z2, z3, z4⟩ := l3 h1 sg
    have ca := cs_eq G0 sa.1
    rw [if_pos sg] at ca
    rw [e0] at z4
    have ch := d3 h1
    rw [z1] at ch
    rcases ch with y | ⟨y1, y2, y3, y4, y5⟩
    · omega
    · refine ⟨⟨p, by rw [htm]; exact pth, x8, xn, hms, Or.inl ⟨rfl, by rw [htm]; exact h1, by rw [htm], rfl⟩⟩, z4, ⟨by omega, y3, x8, xn, z2, z3, Or.inl ⟨rfl, by rw [z1]; omega⟩, anc⟩, y4, y5, by omega, by omega, by omega⟩
  -- the second
  have Bq : 2 ≤ npB B0 t → ∀ B k wc wm, LI B0 s n0 st fs wc0 wm0 B k wc wm → ∃ wm2, eX11_meet N (D + 2) wm (nI i) (nI j) (nI (bB B0 t)) (lN (3 * p + 1)) = some wm2 ∧ Oc N dc B0 s n0 st fs wc0 wm0 i j wc (x + 1 + cs B0 (aB B0 t)) (cs B0 (bB B0 t)) wm2 := fun h2 B k wc wm inv => by
    have sb := sz_b G0 p1.1 p1.2.1 h2
    rw [if_pos (by omega), if_pos h2] at ce
    refine ih ((x, 1) :: l) (x + 1 + cs B0 (aB B0 t)) (bB B0 t) (3 * p + 1) B k wc wm (vp.2.1 h2) (by omega) (fun sg => ?_) inv
    obtain ⟨z1, z2, z3, z4⟩ := l4 h2 sg
    have cb := cs_eq G0 sb.1
    rw [if_pos sg] at cb
    rw [e1] at z4
    have ch := d5 h2
    rw [z1] at ch
    rcases ch with y | ⟨y1, y2, y3, y4, y5⟩
    · omega
    · refine ⟨⟨p, by rw [htm]; exact pth, x8, xn, hms, Or.inr ⟨rfl, by rw [htm]; exact h2, by rw [htm], rfl⟩⟩, z4, ⟨by omega, y3, x8, xn, z2, z3, Or.inr ⟨rfl, by rw [z1]; omega⟩, anc⟩, y4, y5, by omega, by omega, by omega⟩
  have key : bX11_meet_212 N (D + 2) (eX11_meet N (D + 2)) wm (nI i) (nI j) (nI t) (lN p) = fX11_meet_215 N (D + 2) (eX11_meet N (D + 2)) N wm (nI i) (nI j) (nI t) (lN p) (nI 0) := rfl
  rw [key]
  obtain ⟨n, rfl⟩ : ∃ n2, N = n2 + 1 + 1 + 1 := ⟨N - 3, by omega⟩
  -- one look at the loop
  have look : ∀ B (w : Wd) m idx, GB B → Ext B0 B → RM B w → idx ≤ 2 → fX11_meet_215 (n + 1 + 1 + 1) (D + 2) (eX11_meet (n + 1 + 1 + 1) (D + 2)) (m + 1) w (nI i) (nI j) (nI t) (lN p) (nI idx) = if npB B0 t ≤ idx then some w else (c_cv (eX11_meet (n + 1 + 1 + 1) (D + 2) w (nI i) (nI j) (nI (if idx = 0 then aB B0 t else bB B0 t)) (lN (3 * p + (if idx = 0 then 0 else 1)))) fun w12 => fX11_meet_215 (n + 1 + 1 + 1) (D + 2) (eX11_meet (n + 1 + 1 + 1) (D + 2)) m w12 (nI i) (nI j) (nI t) (lN p) (nI (idx + 1))) := fun B w m idx G e rm hidx => by
    have ht : t < nB B := Nat.lt_of_lt_of_le p1.1 e.1
    have et := e.2.2.2.2 t p1.1
    have k0 : fX11_meet_215 (n + 1 + 1 + 1) (D + 2) (eX11_meet (n + 1 + 1 + 1) (D + 2)) (m + 1) w (nI i) (nI j) (nI t) (lN p) (nI idx) = bX11_meet_215 (n + 1 + 1 + 1) (D + 2) (eX11_meet (n + 1 + 1 + 1) (D + 2)) (fX11_meet_215 (n + 1 + 1 + 1) (D + 2) (eX11_meet (n + 1 + 1 + 1) (D + 2)) m) w (nI i) (nI j) (nI t) (lN p) (nI idx) := rfl
    rw [k0]
    unfold bX11_meet_215
    rw [mParts G rm ht, cl_s, e.np p1.1]
    by_cases q : npB B0 t ≤ idx
    · rw [if_pos (by rw [nI_leI (by omega) (by omega)]; exact q), if_pos q]
    · rw [if_neg (by rw [nI_leI (by omega) (by omega)]; exact q), if_neg q]
      simp only [c_nm]
      by_cases z : idx = 0
      · subst z
        have la := np.2.2.1 (by omega)
        rw [show nI 0 = (0 : Int32) from rfl, mPartOf0 G rm ht, cl_s, mBelow, cl_s, e0, et.2.1, eN_n (by omega), if_pos rfl, if_pos rfl]
        rfl
      · have lb := np.2.2.2.1 (by omega)
        have i1 : idx = 1 := by omega
        subst i1
        rw [mPartOf1 (show ¬ nI 1 = 0 by decide) G rm ht, cl_s, show nI 1 = (1 : Int32) from rfl, mBelow, cl_s, e1, et.2.2.1, eN_n (by omega), if_neg (by decide), if_neg (by decide)]
        rfl
  rw [look B wm (n + 1 + 1) 0 inv.2.1 inv.1 inv.2.2.2.1 (by omega)]
  by_cases h1 : 1 ≤ npB B0 t
  · rw [if_neg (by omega), if_pos rfl, if_pos rfl]
    obtain ⟨wm2, a1, wc2, a2⟩ := A h1
    rw [a1, cv_s]
    rw [if_pos h1] at ce
    rcases a2 with ⟨B2, k2, a2, inv2⟩ | ⟨a2, ful⟩
    · rw [look B2 wm2 (n + 1) (0 + 1) inv2.2.1 inv2.1 inv2.2.2.2.1 (by omega)]
      by_cases h2 : 2 ≤ npB B0 t
      · rw [if_neg (by omega), if_neg (by decide), if_neg (by decide)]
        obtain ⟨wm3, b1, wc3, b2⟩ := Bq h2 B2 k2 wc2 wm2 inv2
        rw [b1, cv_s]
        rw [if_pos h2] at ce
        rcases b2 with ⟨B3, k3, b2, inv3⟩ | ⟨b2, ful⟩
        · rw [look B3 wm3 n (0 + 1 + 1) inv3.2.1 inv3.1 inv3.2.2.2.1 (by omega), if_pos (by omega)]
          refine ⟨wm3, rfl, wc3, Or.inl ⟨B3, k3, fun f => ?_, inv3⟩⟩
          have y1 := a2 (f + cs B0 (bB B0 t))
          have y2 := b2 f
          rw [show f + 1 + (cs B0 t - 1) = f + cs B0 (bB B0 t) + 1 + cs B0 (aB B0 t) by omega, y1, show f + cs B0 (bB B0 t) + 1 = f + 1 + cs B0 (bB B0 t) by omega, y2]
          rw [show x + 1 + cs B0 (aB B0 t) + cs B0 (bB B0 t) = x + 1 + (cs B0 t - 1) by omega]
        · rw [show nI (0 + 1 + 1) = nI 2 from rfl, oParts G0 ful.2.2.2.1 p1.1 0 2 (n + 1) (by omega) (by omega) (by omega)]
          refine ⟨wm3, rfl, wc3, Or.inr ⟨fun f => ?_, ful⟩⟩
          have y1 := a2 (f + cs B0 (bB B0 t))
          have y2 := b2 f
          rw [show f + 1 + (cs B0 t - 1) = f + cs B0 (bB B0 t) + 1 + cs B0 (aB B0 t) by omega, y1, show f + cs B0 (bB B0 t) + 1 = f + 1 + cs B0 (bB B0 t) by omega, y2]
      · rw [if_neg h2] at ce
        rw [if_pos (by omega)]
        refine ⟨wm2, rfl, wc2, Or.inl ⟨B2, k2, fun f => ?_, inv2⟩⟩
        rw [show cs B0 t - 1 = cs B0 (aB B0 t) by omega]
        exact a2 f
    · rw [show nI (0 + 1) = nI 1 from rfl, oParts G0 ful.2.2.2.1 p1.1 1 1 (n + 1 + 1) (by omega) (by omega) (by omega)]
      refine ⟨wm2, rfl, wc2, Or.inr ⟨fun f => ?_, ful⟩⟩
      have y1 := a2 (f + (cs B0 t - 1 - cs B0 (aB B0 t)))
      rw [show f + 1 + (cs B0 t - 1) = f + (cs B0 t - 1 - cs B0 (aB B0 t)) + 1 + cs B0 (aB B0 t) by omega]
      exact y1
  · rw [if_pos (by omega)]
    rw [if_neg h1, if_neg (by omega)] at ce
    refine ⟨wm, rfl, wc, Or.inl ⟨B, k, fun f => ?_, inv⟩⟩
    rw [show cs B0 t - 1 = 0 by omega]
/-- both run over all places within a term -/
theorem tRec {N dc dm : Nat} {B0 : Bk} {s : Sht} {n0 le yri ylj yrj i j fs st : Nat} {R : Ru} {wc0 wm0 : Wd} (hN : 2000000 ≤ N) (cst : CS B0 s n0 le yri ylj yrj i j R wc0 wm0 fs st) (sw00 : SW B0 s n0 wc0) : ∀ kk l x t p B k wc wm, VT B0 t 0 → szB B0 t ≤ kk → (hB B0 t < 10 → Pth B0 s n0 (R.2.1 i) l x t p kk ∧ PL B0 s wc0 kk x t (lN p) ∧ Anc n0 (f1S s) (f2S s) wc0 l x ∧ tmS s x = t ∧ msS s x = 0 ∧ 8 ≤ x ∧ x + cs B0 t ≤ le ∧ ¬ (i = j ∧ p = 1)) → LI B0 s n0 st fs wc0 wm0 B k wc wm →
    ∃ wm2, eX11_meet N (dm + kk + 545) wm (nI i) (nI j) (nI t) (lN p) = some wm2 ∧ Oc N dc B0 s n0 st fs wc0 wm0 i j wc x (cs B0 t) wm2 := by
  have cst0 := cst
  obtain ⟨G0, gr, hi, hj, rr0, n9, n128, hlen, c6, c7, c8, c9, c18, hst, chri, chlj, chrj, y8, t8, m8⟩ := cst
  intro kk
  induction kk with
  | zero => intro l x t p B k wc wm hvt hs; have := (G0.sz_le hvt.1).2.1; omega
  | succ kq ih =>
    intro l x t p B k wc wm hvt hs hsg inv
    have inv0 := inv
    obtain ⟨ext, G, rb, rm, rw, fc, fm, od, sw0⟩ := inv
    have g1 := gr.1
    have ht : t < nB B := Nat.lt_of_lt_of_le hvt.1 ext.1
    have eh := (ext.2.2.2.2 t hvt.1).1
    have key : eX11_meet N (dm + (kq + 1) + 545) wm (nI i) (nI j) (nI t) (lN p) = bX11_meet_0 N (dm + kq + 545) (eX11_meet N (dm + kq + 545)) wm (nI i) (nI j) (nI t) (lN p) := rfl
    rw [key]
    unfold bX11_meet_0 bX11_meet_24
    have iv : eX11_isVariable N (dm + kq + 545) wm (nI t) = some (wm, if hB B t < 10 then 0 else 1) := mIsVar G rm ht
    rw [iv, cl_s, eh]
    by_cases q : hB B0 t < 10
    · obtain ⟨pth, pl, anc, htm, hms, x8, hle, hne⟩ := hsg q
      have ce := cs_eq G0 hvt.1
      rw [if_pos q] at ce
      obtain ⟨p1, p2, p3⟩ := pth.vt G0 (gr.vt (m := 0) hi (Or.inl rfl)).1
      have ppl := p3.lt
      rw [if_pos q, if_pos i00, rw.2.2.1]
      by_cases q60 : k = 60
      · rw [if_pos (by rw [q60]; rfl)]
        refine ⟨wm, rfl, wc, Or.inl ⟨B, k, fun f => ?_, inv0⟩⟩
        have stop : ∀ f x, TL N dc i j n0 (f + 1) wc x = some (wc, 1) := fun f x => by
          have k0 : fX1_tellOf_26 N (dc + 4) (f + 1) wc (nI i) (nI j) (nI n0) (nI x) = bX1_tellOf_26 N (dc + 4) (fX1_tellOf_26 N (dc + 4) f) wc (nI i) (nI j) (nI n0) (nI x) := rfl
          show fX1_tellOf_26 N (dc + 4) (f + 1) wc (nI i) (nI j) (nI n0) (nI x) = _
          rw [k0]
          unfold bX1_tellOf_26 bX1_tellOf_184
          rw [rw.2.1, q60]
          split
          · rfl
          · rw [if_pos (by decide)]
        rw [show f + 1 + cs B0 t = f + cs B0 t + 1 by omega, stop, stop]
      · have hk : k < 60 := by have := rw.1; omega
        rw [if_neg (show ¬ nI k = 60 from fun z => q60 ((nI_eq (a := k) (b := 60) (by omega) (by omega)).mp z)), rm.2.2.1, if_pos i00]
        have no1 : (if nI i = nI j then (if lg_cmp (lN p) 1 = 0 then bX11_meet_212 N (dm + kq + 545) (eX11_meet N (dm + kq + 545)) wm (nI i) (nI j) (nI t) (lN p) else bX11_meet_37 N (dm + kq + 545) (eX11_meet N (dm + kq + 545)) wm (nI i) (nI j) (nI t) (lN p)) else bX11_meet_37 N (dm + kq + 545) (eX11_meet N (dm + kq + 545)) wm (nI i) (nI j) (nI t) (lN p)) = bX11_meet_37 N (dm + kq + 545) (eX11_meet N (dm + kq + 545)) wm (nI i) (nI j) (nI t) (lN p) := by
          by_cases z : i = j
          · rw [if_pos (by rw [z]), if_neg (by rw [lg_cmp_eq, show (1 : Int64) = lN 1 from rfl, pk_lEQ (by omega) (by omega)]; exact fun y => hne ⟨z, y⟩)]
          · rw [if_neg (fun y => z ((nI_eq (by omega) (by omega)).mp y))]
        rw [no1]
        obtain ⟨wc2, wm2, h1, h2⟩ := tHead (dc := dc) (dm := dm + kq) hN cst0 inv0 hk pth anc x8 (by omega) (by
          have := (pl q).1
          exact this) htm hms
        rw [h1]
        rcases h2 with ⟨B2, k2, h2, inv2⟩ | ⟨h2, ful⟩
        · obtain ⟨wm3, t1, wc3, t2⟩ := tParts (dc := dc) (D := dm + kq + 543) hN cst0 ih sw00 q pth pl anc htm hms x8 hle inv2
          refine ⟨wm3, t1, wc3, ?_⟩
          rcases t2 with ⟨B3, k3, t2, inv3⟩ | ⟨t2, ful⟩
          · refine Or.inl ⟨B3, k3, fun f => ?_, inv3⟩
            have y := h2 (f + 1 + (cs B0 t - 1))
            show fX1_tellOf_26 N (dc + 4) (f + 1 + cs B0 t) wc (nI i) (nI j) (nI n0) (nI x) = _
            rw [show f + 1 + cs B0 t = f + 1 + (cs B0 t - 1) + 1 by omega, y]
            have y2 := t2 f
            rw [show x + 1 + (cs B0 t - 1) = x + cs B0 t by omega] at y2
            exact y2
          · refine Or.inr ⟨fun f => ?_, ful⟩
            have y := h2 (f + 1 + (cs B0 t - 1))
            show fX1_tellOf_26 N (dc + 4) (f + 1 + cs B0 t) wc (nI i) (nI j) (nI n0) (nI x) = _
            rw [show f + 1 + cs B0 t = f + 1 + (cs B0 t - 1) + 1 by omega, y]
            exact t2 f
        · have op : bX11_meet_212 N (dm + kq + 545) (eX11_meet N (dm + kq + 545)) wm2 (nI i) (nI j) (nI t) (lN p) = some wm2 := oParts (D := dm + kq + 543) G0 ful.2.2.2.1 hvt.1 2 0 N (by omega) (by omega) (by omega)
          rw [op]
          refine ⟨wm2, rfl, wc2, Or.inr ⟨fun f => ?_, ful⟩⟩
          have y := h2 (f + 1 + (cs B0 t - 1))
          show fX1_tellOf_26 N (dc + 4) (f + 1 + cs B0 t) wc (nI i) (nI j) (nI n0) (nI x) = _
          rw [show f + 1 + cs B0 t = f + 1 + (cs B0 t - 1) + 1 by omega, y]
    · have ce := cs_eq G0 hvt.1
      rw [if_neg q] at ce
      rw [if_neg q, if_neg i10]
      refine ⟨wm, rfl, wc, Or.inl ⟨B, k, fun f => ?_, inv0⟩⟩
      rw [ce]
      rfl
