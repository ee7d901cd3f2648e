/-! the sheet of two rules -/
theorem cs_ext {B B2 : Bk} (G : GB B) (G2 : GB B2) (e : Ext B B2) : ∀ k t, t < k → t < nB B → cs B2 t = cs B t := by
  intro k
  induction k with
  | zero => intro t h; omega
  | succ k ih =>
    intro t h ht
    have et := e.2.2.2.2 t ht
    have ht2 : t < nB B2 := Nat.lt_of_lt_of_le ht e.1
    rw [cs_eq G2 ht2, cs_eq G ht, et.1, et.2.1, et.2.2.1, e.np ht]
    have ha : (if 1 ≤ npB B t then cs B2 (aB B t) else 0) = (if 1 ≤ npB B t then cs B (aB B t) else 0) := by
      by_cases q : 1 ≤ npB B t
      · have := (G.np ht).2.2.1 q
        rw [if_pos q, if_pos q, ih _ (by omega) (by omega)]
      · rw [if_neg q, if_neg q]
    have hb : (if 2 ≤ npB B t then cs B2 (bB B t) else 0) = (if 2 ≤ npB B t then cs B (bB B t) else 0) := by
      by_cases q : 2 ≤ npB B t
      · have := (G.np ht).2.2.2.1 q
        rw [if_pos q, if_pos q, ih _ (by omega) (by omega)]
      · rw [if_neg q, if_neg q]
    rw [ha, hb]
theorem PL.ext {B B2 : Bk} (G : GB B) (G2 : GB B2) (e : Ext B B2) {s : Sht} {w : Wd} : ∀ k x t p, t < nB B → PL B s w k x t p → PL B2 s w k x t p := by
  intro k
  induction k with
  | zero => intro x t p _ _; trivial
  | succ k ih =>
    intro x t p ht h hs
    have et := e.2.2.2.2 t ht
    have np := G.np ht
    rw [et.1] at hs
    obtain ⟨h1, h2, h3, h4⟩ := h hs
    have enp := e.np ht
    refine ⟨h1, h2, fun n1 sa => ?_, fun n2 sb => ?_⟩
    · rw [enp] at n1
      have la := np.2.2.1 n1
      have ea := e.2.2.2.2 (aB B t) (by omega)
      rw [et.2.1, ea.1] at sa
      obtain ⟨q1, q2, q3, q4⟩ := h3 n1 sa
      rw [et.2.1]
      exact ⟨q1, q2, q3, ih _ _ _ (by omega) q4⟩
    · rw [enp] at n2
      have la := np.2.2.1 (by omega)
      have lb := np.2.2.2.1 n2
      have eb := e.2.2.2.2 (bB B t) (by omega)
      rw [et.2.2.1, eb.1] at sb
      obtain ⟨q1, q2, q3, q4⟩ := h4 n2 sb
      rw [et.2.2.1, et.2.1, cs_ext G G2 e (aB B t + 1) _ (by omega) (by omega)]
      exact ⟨q1, q2, q3, ih _ _ _ (by omega) q4⟩
theorem Agr.pi {lo hi k : Nat} {s s2 : Sht} {w w2 : Wd} {v : Int32} (h : Agr lo hi s s2 w w2) : Agr lo hi s s2 w (pI w2 k v) := h
theorem SW.lay {B : Bk} {k t m n y : Nat} {p : Int64} {s s2 : Sht} {w w2 : Wd} (h : SW B s n w) (h8 : 8 ≤ n) (r : LayR B k t m n p s s2 w w2 y) : SW B s2 (n + cs B t) w2 := fun x x8 hx => by
  obtain ⟨r1, r2, r3, r4, r5, r6, r7, r8⟩ := r
  by_cases q : x < n
  · exact ((h x x8 q).agr ⟨x8, q⟩ (r3.mn (by omega) (Nat.le_refl _))).mn (Nat.le_refl _) (by omega)
  · exact (r7 x (by omega) hx).mn (by omega) (Nat.le_refl _)
theorem SW.pi {B : Bk} {s : Sht} {n k : Nat} {w : Wd} {v : Int32} (h : SW B s n w) : SW B s n (pI w k v) := h.k (S := fun j => j == k) (A := noA) ((Fr.rf w).pi (k := k) (by simp))
abbrev glS : Nat → Bool := fun k => tlS k || k == 6 || k == 7 || k == 8 || k == 9
abbrev glA : Nat → Bool := fun k => tlA k || laA k
theorem Fr.gt {w w2 : Wd} (h : Fr tlS tlA w w2) : Fr glS glA w w2 := h.mn (fun k hk => (or_f (or_f (or_f (or_f hk).1).1).1).1) (fun k hk => (or_f hk).1)
theorem Fr.gl {w w2 : Wd} (h : Fr laS laA w w2) : Fr glS glA w w2 := h.mn (fun k hk => (or_f (or_f (or_f (or_f (or_f (or_f hk).1).1).1).1).1).2) (fun k hk => (or_f hk).2)
/-- the sheet of the first rule -/
def SI (B : Bk) (R : Ru) (i : Nat) (s : Sht) (le n1 yri : Nat) (w : Wd) : Prop :=
  SW B s n1 w ∧ PL B s w 30 8 (R.2.1 i) (lN 1) ∧ Chd B s 8 n1 yri (R.2.2.1 i) 0 ∧ tmS s 8 = R.2.1 i ∧ msS s 8 = 0 ∧ sI w 6 = nI le ∧ sI w 7 = nI yri ∧ le = 8 + cs B (R.2.1 i) ∧ n1 = le + cs B (R.2.2.1 i) ∧ le < n1 + 1 ∧ n1 ≤ 68
theorem GR.cs {B : Bk} (G : GB B) {R : Ru} (h : GR B R) {r : Nat} (hr : r < R.1) : 1 ≤ cs B (R.2.1 r) ∧ cs B (R.2.1 r) ≤ 30 ∧ cs B (R.2.2.1 r) ≤ 30 := by
  obtain ⟨a1, a2, a3, a4, a5, a6, a7⟩ := h.2 r hr
  have c1 := cs_le G (R.2.1 r + 1) _ (by omega) a1 a4
  have c2 := cs_le G (R.2.2.1 r + 1) _ (by omega) a2 a5
  have ce := cs_eq G a1
  rw [if_pos a3] at ce
  omega
theorem cLayFirst {N d i : Nat} {B : Bk} {R : Ru} {w : Wd} (G : GB B) (gr : GR B R) (rc : RRc R w) (rb : RB B w) (hi : i < R.1) :
    ∃ w2 s le n1 yri, eX1_layFirst N (d + 62) w (nI i) = some w2 ∧ SI B R i s le n1 yri w2 ∧ sI w2 19 = nI n1 ∧ Fr glS glA w w2 ∧ RB B w2 ∧ (∀ st, Old st w w2) ∧ ∀ B2 fs k m, Rw B2 fs k w m → Rw B2 fs k w2 m := by
  have g16 := gr.1
  have cl := gr.cs G hi
  have vt := gr.vt (m := 0) hi (Or.inl rfl)
  have lsg := (gr.2 i hi).2.2.1
  have key : eX1_layFirst N (d + 62) w (nI i) = bX1_layFirst_0 N (d + 61) w (nI i) := rfl
  rw [key]
  unfold bX1_layFirst_0
  simp only [c_pi]
  rw [ld_n (by omega) (by omega), show aI (pI w 19 8) 23 i = nI (R.2.1 i) from (rc.2 i hi).1]
  have f0 : Fr laS laA w (pI w 19 8) := (Fr.rf w).pi (k := 19) rfl
  have rb0 : RB B (pI w 19 8) := rb.k f0
  have e19 : sI (pI w 19 8) 19 = nI 8 := rfl
  generalize pI w 19 8 = w1 at *
  obtain ⟨w3, s3, y, e1, r1⟩ := cLay (N := N) G 30 d (R.2.1 i) 0 8 1 (lN 1) w1 (fun _ => 0, fun _ => 0, fun _ => 0, fun _ => 0) rb0 vt.1 vt.1.2.1 (by omega) (by omega) (by omega) e19
  have e1' : eX5_lay N (d + 61) w1 (nI (R.2.1 i)) 0 1 1 = some (w3, nI y) := e1
  have r1' := r1
  obtain ⟨a1, a2, a3, a4, a5, a6, a7, a8⟩ := r1
  rw [e1', cl_s, a2]
  have hy : y = 8 := a6 lsg
  have sw3 : SW B s3 (8 + cs B (R.2.1 i)) w3 := SW.lay (s := (fun _ => 0, fun _ => 0, fun _ => 0, fun _ => 0)) (w := w1) (fun x h1 h2 => by omega) (by omega) r1'
  have f3 : Fr laS laA w w3 := f0.tr a1
  have rc3 : RRc R w3 := rc.k f3
  rw [ld_n (by omega) (by omega), show aI (pI w3 6 (nI (8 + cs B (R.2.1 i)))) 24 i = nI (R.2.2.1 i) from (rc3.2 i hi).2.1]
  have rb5 : RB B (pI w3 6 (nI (8 + cs B (R.2.1 i)))) := (rb0.k a1).k (S := fun k => k == 6) (A := noA) ((Fr.rf w3).pi (k := 6) rfl)
  have f5 : Fr glS glA w (pI w3 6 (nI (8 + cs B (R.2.1 i)))) := f3.gl.pi (k := 6) rfl
  have sw5 : SW B s3 (8 + cs B (R.2.1 i)) (pI w3 6 (nI (8 + cs B (R.2.1 i)))) := sw3.pi
  have pl5 : PL B s3 (pI w3 6 (nI (8 + cs B (R.2.1 i)))) 30 8 (R.2.1 i) (lN 1) := PL.agr G (lo := 8) (hi := 8 + cs B (R.2.1 i)) (Agr.pi (Agr.rf s3 w3)) 30 8 _ _ vt.1.1 (Nat.le_refl _) (Nat.le_refl _) a8
  have e195 : sI (pI w3 6 (nI (8 + cs B (R.2.1 i)))) 19 = nI (8 + cs B (R.2.1 i)) := a2
  have e6 : sI (pI w3 6 (nI (8 + cs B (R.2.1 i)))) 6 = nI (8 + cs B (R.2.1 i)) := rfl
  have p6 : Fr (fun k => k == 6) noA w3 (pI w3 6 (nI (8 + cs B (R.2.1 i)))) := (Fr.rf w3).pi (k := 6) rfl
  generalize pI w3 6 (nI (8 + cs B (R.2.1 i))) = w5 at *
  obtain ⟨w7, s7, y2, e2, r2⟩ := cLay (N := N) G 30 d (R.2.2.1 i) 0 (8 + cs B (R.2.1 i)) 1 (lN 1) w5 s3 rb5 vt.2 vt.2.2.1 (by omega) (by omega) (by omega) e195
  have e2' : eX5_lay N (d + 61) w5 (nI (R.2.2.1 i)) 0 1 1 = some (w7, nI y2) := e2
  have r2' := r2
  obtain ⟨b1, b2, b3, b4, b5, b6, b7, b8⟩ := r2
  rw [e2', cl_s]
  have sw7 := sw5.lay (by omega) r2'
  obtain ⟨z1, z2, z3, z4⟩ := a4.resolve_left (fun z => by omega)
  obtain ⟨u1, u2, u3, u4, u5, u6, u7, u8, u9, u10, u11⟩ := b3 8 (by omega) (by omega)
  refine ⟨pI w7 7 (nI y2), s7, 8 + cs B (R.2.1 i), 8 + cs B (R.2.1 i) + cs B (R.2.2.1 i), y2, rfl, ⟨sw7.pi, ?_, b4.mn (by omega) (Nat.le_refl _), ?_, ?_, ?_, rfl, rfl, rfl, by omega, by omega⟩, b2, (f5.tr b1.gl).pi (k := 7) rfl, (rb5.k b1).k (S := fun k => k == 7) (A := noA) ((Fr.rf w7).pi (k := 7) rfl), fun st => (((Old.of f3).tr (Old.of p6)).tr (Old.of b1)).tr (Old.of (S := fun k => k == 7) (A := noA) ((Fr.rf w7).pi (k := 7) rfl)), fun B2 fs k m h => (((h.k (Nat.le_refl _) f3 (Fr.rf (S := noS) (A := noA) _)).k (Nat.le_refl _) p6 (Fr.rf (S := noS) (A := noA) _)).k (Nat.le_refl _) b1 (Fr.rf (S := noS) (A := noA) _)).k (Nat.le_refl _) (S := fun k => k == 7) (A := noA) ((Fr.rf w7).pi (k := 7) rfl) (Fr.rf (S := noS) (A := noA) _)⟩
  · exact PL.agr G (lo := 8) (hi := 8 + cs B (R.2.1 i)) (Agr.pi (b3.mn (by omega) (Nat.le_refl _))) 30 8 _ _ vt.1.1 (Nat.le_refl _) (Nat.le_refl _) pl5
  · rw [u1, ← hy]; exact z4.1
  · rw [u2, ← hy]; exact z4.2
  · show sI w7 6 = _
    rw [b1.1 6 rfl]; exact e6
theorem cLaySecond {N d i j le n1 yri : Nat} {B : Bk} {R : Ru} {w wm : Wd} {s : Sht} {fs st : Nat} (G : GB B) (gr : GR B R) (rc : RRc R w) (rr : RRm R wm) (rb : RB B w) (hi : i < R.1) (hj : j < R.1) (si : SI B R i s le n1 yri w) (h19 : sI w 19 = nI n1) (h18 : sI w 18 = nI fs) (hst : st = 0 ∧ fs = 60 ∨ st = 60 ∧ fs = 0) :
    ∃ w2 s2 n0 ylj yrj, eX1_laySecond N (d + 62) w (nI j) = some w2 ∧ CS B s2 n0 le yri ylj yrj i j R w2 wm fs st ∧ SW B s2 n0 w2 ∧ PL B s2 w2 30 8 (R.2.1 i) (lN 1) ∧ sI w2 19 = nI n0 ∧ Agr 8 n1 s s2 w w2 ∧ n1 ≤ n0 ∧ Fr glS glA w w2 ∧ RB B w2 ∧ sI w2 6 = sI w 6 ∧ sI w2 7 = sI w 7 ∧ Old st w w2 ∧ ∀ B2 k m, Rw B2 fs k w m → Rw B2 fs k w2 m := by
  have g16 := gr.1
  have cl := gr.cs G hj
  have vt := gr.vt (m := 4) hj (Or.inr rfl)
  have vti := gr.vt (m := 0) hi (Or.inl rfl)
  have lsg := (gr.2 j hj).2.2.1
  obtain ⟨i1, i2, i3, i4, i5, i6, i7, i8, i9, i10, i11⟩ := si
  have key : eX1_laySecond N (d + 62) w (nI j) = bX1_laySecond_0 N (d + 61) w (nI j) := rfl
  rw [key]
  unfold bX1_laySecond_0
  have cli := gr.cs G hi
  rw [ld_n (by omega) (by omega), (rc.2 j hj).1]
  obtain ⟨w2, s2, y, e1, r1⟩ := cLay (N := N) G 30 d (R.2.1 j) 4 n1 1 (lN 1) w s rb vt.1 vt.1.2.1 (by omega) (by omega) (by omega) h19
  have e1' : eX5_lay N (d + 61) w (nI (R.2.1 j)) 4 1 1 = some (w2, nI y) := e1
  have r1' := r1
  obtain ⟨a1, a2, a3, a4, a5, a6, a7, a8⟩ := r1
  rw [e1', cl_s]
  simp only [c_pi]
  have hy : y = n1 := a6 lsg
  have sw2 := i1.lay (by omega) r1'
  have rc2 : RRc R w2 := rc.k a1
  rw [ld_n (by omega) (by omega), show aI (pI w2 8 (nI y)) 24 j = nI (R.2.2.1 j) from (rc2.2 j hj).2.1]
  have rb4 : RB B (pI w2 8 (nI y)) := (rb.k a1).k (S := fun k => k == 8) (A := noA) ((Fr.rf w2).pi (k := 8) rfl)
  have f4 : Fr glS glA w (pI w2 8 (nI y)) := a1.gl.pi (k := 8) rfl
  have sw4 : SW B s2 (n1 + cs B (R.2.1 j)) (pI w2 8 (nI y)) := sw2.pi
  have ag4 : Agr 0 n1 s s2 w (pI w2 8 (nI y)) := a3.pi
  have e194 : sI (pI w2 8 (nI y)) 19 = nI (n1 + cs B (R.2.1 j)) := a2
  have e8 : sI (pI w2 8 (nI y)) 8 = nI y := rfl
  have e6 : sI (pI w2 8 (nI y)) 6 = sI w 6 := a1.1 6 rfl
  have e7 : sI (pI w2 8 (nI y)) 7 = sI w 7 := a1.1 7 rfl
  have e18 : sI (pI w2 8 (nI y)) 18 = sI w 18 := a1.1 18 rfl
  have od4 : Old st w (pI w2 8 (nI y)) := (Old.of a1).tr (Old.of (S := fun k => k == 8) (A := noA) ((Fr.rf w2).pi (k := 8) rfl))
  have rw4 : ∀ B2 k m, Rw B2 fs k w m → Rw B2 fs k (pI w2 8 (nI y)) m := fun B2 k m h => (h.k (Nat.le_refl _) a1 (Fr.rf (S := noS) (A := noA) _)).k (Nat.le_refl _) (S := fun k => k == 8) (A := noA) ((Fr.rf w2).pi (k := 8) rfl) (Fr.rf (S := noS) (A := noA) _)
  generalize pI w2 8 (nI y) = w4 at *
  obtain ⟨w6, s6, y2, e2, r2⟩ := cLay (N := N) G 30 d (R.2.2.1 j) 4 (n1 + cs B (R.2.1 j)) 1 (lN 1) w4 s2 rb4 vt.2 vt.2.2.1 (by omega) (by omega) (by omega) e194
  have e2' : eX5_lay N (d + 61) w4 (nI (R.2.2.1 j)) 4 1 1 = some (w6, nI y2) := e2
  have r2' := r2
  obtain ⟨b1, b2, b3, b4, b5, b6, b7, b8⟩ := r2
  rw [e2', cl_s]
  have sw6 := sw4.lay (by omega) r2'
  have ag : Agr 0 n1 s s6 w (pI w6 9 (nI y2)) := (ag4.tr (b3.mn (Nat.le_refl _) (by omega))).pi
  obtain ⟨u1, u2, u3, u4, u5, u6, u7, u8, u9, u10, u11⟩ := ag 8 (by omega) (by omega)
  have pl := PL.agr G (lo := 8) (hi := n1) (ag.mn (by omega) (Nat.le_refl _)) 30 8 _ _ vti.1.1 (Nat.le_refl _) (by omega) i2
  refine ⟨pI w6 9 (nI y2), s6, n1 + cs B (R.2.1 j) + cs B (R.2.2.1 j), y, y2, rfl, ⟨G, gr, hi, hj, rr, by omega, by omega, by omega, ?_, ?_, ?_, rfl, ?_, hst, ?_, ?_, ?_, by omega, by rw [u1]; exact i4, by rw [u2]; exact i5⟩, sw6.pi, pl, b2, ag.mn (by omega) (Nat.le_refl _), by omega, (f4.tr b1.gl).pi (k := 9) rfl, (rb4.k b1).k (S := fun k => k == 9) (A := noA) ((Fr.rf w6).pi (k := 9) rfl), ?_, ?_, ?_, fun B2 k m h => ((rw4 B2 k m h).k (Nat.le_refl _) b1 (Fr.rf (S := noS) (A := noA) _)).k (Nat.le_refl _) (S := fun k => k == 9) (A := noA) ((Fr.rf w6).pi (k := 9) rfl) (Fr.rf (S := noS) (A := noA) _)⟩
  · show sI w6 6 = _
    rw [b1.1 6 rfl, e6]; exact i6
  · show sI w6 7 = _
    rw [b1.1 7 rfl, e7]; exact i7
  · show sI w6 8 = _
    rw [b1.1 8 rfl]; exact e8
  · show sI w6 18 = _
    rw [b1.1 18 rfl, e18]; exact h18
  · exact (i3.agr (ag.mn (by omega) (Nat.le_refl _))).mn (by omega) (by omega)
  · exact (a4.agr (b3.mn (by omega) (Nat.le_refl _))).mn (by omega) (by omega)
  · exact b4.mn (by omega) (Nat.le_refl _)
  · show sI w6 6 = _
    rw [b1.1 6 rfl]; exact e6
  · show sI w6 7 = _
    rw [b1.1 7 rfl]; exact e7
  · exact (od4.tr (Old.of b1)).tr (Old.of (S := fun k => k == 9) (A := noA) ((Fr.rf w6).pi (k := 9) rfl))
/-- what two rules tell -/
theorem tTell {N dc dm : Nat} {B0 : Bk} {s : Sht} {n0 le yri ylj yrj i j fs st k : Nat} {R : Ru} {wc wm : Wd} (hN : 2000000 ≤ N) (cst : CS B0 s n0 le yri ylj yrj i j R wc wm fs st) (sw : SW B0 s n0 wc) (pl : PL B0 s wc 30 8 (R.2.1 i) (lN 1)) (h19 : sI wc 19 = nI n0) (hle : le = 8 + cs B0 (R.2.1 i)) (rb : RB B0 wc) (rm : RM B0 wm) (rw' : Rw B0 fs k wc wm) :
    ∃ wc2 wm2, eX11_meet N (dm + 575) wm (nI i) (nI j) (nI (R.2.1 i)) 1 = some wm2 ∧ ((eX1_tellOf N (dc + 5) wc (nI i) (nI j) = some (wc2, 1) ∧ ∃ B2 k2, LI B0 s n0 st fs wc wm B2 k2 wc2 wm2) ∨ (eX1_tellOf N (dc + 5) wc (nI i) (nI j) = some (wc2, 0) ∧ Ful B0 st wc wm wc2 wm2)) := by
  have cst0 := cst
  obtain ⟨G0, gr, hi, hj, rr0, n9, n128, hlen, c6, c7, c8, c9, c18, hst, chri, chlj, chrj, y8, t8, m8⟩ := cst
  have inv : LI B0 s n0 st fs wc wm B0 k wc wm := ⟨Ext.rf B0, G0, rb, rm, rw', Fr.rf wc, Fr.rf wm, Old.rf wc, sw⟩
  have g16 := gr.1
  have vt := (gr.vt (m := 0) hi (Or.inl rfl)).1
  have lsg := (gr.2 i hi).2.2.1
  have cl := gr.cs G0 hi
  have pth : Pth B0 s n0 (R.2.1 i) [] 8 (R.2.1 i) 1 30 := ⟨rfl, rfl, rfl, rfl⟩
  have stop : ∀ f (w : Wd), sI w 6 = nI le → TL N dc i j n0 (f + 1) w le = some (w, 1) := fun f w h6 => by
    have k0 : fX1_tellOf_26 N (dc + 4) (f + 1) w (nI i) (nI j) (nI n0) (nI le) = bX1_tellOf_26 N (dc + 4) (fX1_tellOf_26 N (dc + 4) f) w (nI i) (nI j) (nI n0) (nI le) := rfl
    show fX1_tellOf_26 N (dc + 4) (f + 1) w (nI i) (nI j) (nI n0) (nI le) = _
    rw [k0]
    unfold bX1_tellOf_26 bX1_tellOf_184
    rw [h6, if_pos (by rw [nI_leI (by omega) (by omega)]; omega)]
  have key : eX1_tellOf N (dc + 5) wc (nI i) (nI j) = if nI i = nI j then TL N dc i j n0 N wc 9 else TL N dc i j n0 N wc 8 := by
    have k0 : eX1_tellOf N (dc + 5) wc (nI i) (nI j) = bX1_tellOf_0 N (dc + 4) wc (nI i) (nI j) := rfl
    rw [k0]
    unfold bX1_tellOf_0 bX1_tellOf_20
    simp only [c_nm]
    rw [h19]
    rfl
  have fin : ∀ x c wm2, x + c = le → c < 100 → Oc N dc B0 s n0 st fs wc wm i j wc x c wm2 → ∃ wc2, (TL N dc i j n0 N wc x = some (wc2, 1) ∧ ∃ B2 k2, LI B0 s n0 st fs wc wm B2 k2 wc2 wm2) ∨ (TL N dc i j n0 N wc x = some (wc2, 0) ∧ Ful B0 st wc wm wc2 wm2) := fun x c wm2 hxc hc h => by
    obtain ⟨wc2, h⟩ := h
    refine ⟨wc2, ?_⟩
    rcases h with ⟨B2, k2, h, inv2⟩ | ⟨h, ful⟩
    · refine Or.inl ⟨?_, B2, k2, inv2⟩
      have := h (N - 1 - c)
      rw [show N - 1 - c + 1 + c = N by omega, hxc] at this
      rw [this]
      exact stop _ _ (by rw [inv2.2.2.2.2.2.1.1 6 rfl]; exact c6)
    · refine Or.inr ⟨?_, ful⟩
      have := h (N - 1 - c)
      rw [show N - 1 - c + 1 + c = N by omega] at this
      exact this
  rw [key]
  by_cases e : i = j
  · rw [if_pos (by rw [e])]
    -- the first place is left out
    have mk : ∃ wm2, eX11_meet N (dm + 575) wm (nI i) (nI j) (nI (R.2.1 i)) 1 = some wm2 ∧ Oc N dc B0 s n0 st fs wc wm i j wc 9 (cs B0 (R.2.1 i) - 1) wm2 := by
      have k0 : eX11_meet N (dm + 575) wm (nI i) (nI j) (nI (R.2.1 i)) 1 = bX11_meet_0 N (dm + 574) (eX11_meet N (dm + 574)) wm (nI i) (nI j) (nI (R.2.1 i)) 1 := rfl
      rw [k0]
      unfold bX11_meet_0 bX11_meet_24
      have iv : eX11_isVariable N (dm + 574) wm (nI (R.2.1 i)) = some (wm, if hB B0 (R.2.1 i) < 10 then 0 else 1) := mIsVar G0 rm vt.1
      rw [iv, cl_s, if_pos lsg, if_pos i00, rw'.2.2.1]
      by_cases q60 : k = 60
      · rw [if_pos (by rw [q60]; rfl)]
        refine ⟨wm, rfl, wc, Or.inl ⟨B0, k, fun f => ?_, inv⟩⟩
        have st2 : ∀ f x, TL N dc i j n0 (f + 1) wc x = some (wc, 1) := fun f x => by
          have k0 : fX1_tellOf_26 N (dc + 4) (f + 1) wc (nI i) (nI j) (nI n0) (nI x) = bX1_tellOf_26 N (dc + 4) (fX1_tellOf_26 N (dc + 4) f) wc (nI i) (nI j) (nI n0) (nI x) := rfl
          show fX1_tellOf_26 N (dc + 4) (f + 1) wc (nI i) (nI j) (nI n0) (nI x) = _
          rw [k0]
          unfold bX1_tellOf_26 bX1_tellOf_184
          rw [rw'.2.1, q60]
          split
          · rfl
          · rw [if_pos (by decide)]
        rw [show f + 1 + (cs B0 (R.2.1 i) - 1) = f + (cs B0 (R.2.1 i) - 1) + 1 by omega, st2, st2]
      · have hk := rw'.1
        rw [if_neg (show ¬ nI k = 60 from fun z => q60 ((nI_eq (a := k) (b := 60) (by omega) (by omega)).mp z)), rm.2.2.1, if_pos i00, if_pos (by rw [e]), if_pos (by decide)]
        exact tParts (dc := dc) (D := dm + 572) (kq := 29) hN cst0 (tRec (dc := dc) (dm := dm) hN cst0 sw 29) sw lsg pth pl rfl t8 m8 (by omega) (by omega) inv
    obtain ⟨wm2, a1, a2⟩ := mk
    obtain ⟨wc2, h⟩ := fin 9 (cs B0 (R.2.1 i) - 1) wm2 (by omega) (by omega) a2
    exact ⟨wc2, wm2, a1, h⟩
  · rw [if_neg (fun y => e ((nI_eq (by omega) (by omega)).mp y))]
    obtain ⟨wm2, a1, a2⟩ := tRec (dc := dc) (dm := dm) hN cst0 sw 30 [] 8 (R.2.1 i) 1 B0 k wc wm vt vt.2.1 (fun _ => ⟨pth, pl, rfl, t8, m8, by omega, by omega, fun z => e z.1⟩) inv
    have a1' : eX11_meet N (dm + 575) wm (nI i) (nI j) (nI (R.2.1 i)) 1 = some wm2 := a1
    obtain ⟨wc2, h⟩ := fin 8 (cs B0 (R.2.1 i)) wm2 (by omega) (by omega) a2
    exact ⟨wc2, wm2, a1', h⟩
