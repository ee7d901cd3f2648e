/-- one place, on both sides -/
theorem tHead {N dc dm : Nat} {B0 B : Bk} {s : Sht} {n0 le yri ylj yrj i j fs st k x t p kk : Nat} {R : Ru} {wc0 wm0 wc wm : Wd} {l : List (Nat × Nat)} (hN : 2000000 ≤ N) (cst : CS B0 s n0 le yri ylj yrj i j R wc0 wm0 fs st) (inv : LI B0 s n0 st fs wc0 wm0 B k wc wm) (hk : k < 60) (pth0 : Pth B0 s n0 (R.2.1 i) l x t p kk) (anc : Anc n0 (f1S s) (f2S s) wc0 l x) (x8 : 8 ≤ x) (hx : x < le) (h55 : aL wc0 55 x = lN p) (htm : tmS s x = t) (hms : msS s x = 0) :
    ∃ wc2 wm2, (∀ self, bX11_meet_37 N (dm + 545) self wm (nI i) (nI j) (nI t) (lN p) = bX11_meet_212 N (dm + 545) self wm2 (nI i) (nI j) (nI t) (lN p)) ∧
      ((∃ B2 k2, (∀ f, fX1_tellOf_26 N (dc + 4) (f + 1) wc (nI i) (nI j) (nI n0) (nI x) = fX1_tellOf_26 N (dc + 4) f wc2 (nI i) (nI j) (nI n0) (nI (x + 1))) ∧ LI B0 s n0 st fs wc0 wm0 B2 k2 wc2 wm2) ∨
       ((∀ f, fX1_tellOf_26 N (dc + 4) (f + 1) wc (nI i) (nI j) (nI n0) (nI x) = some (wc2, 0)) ∧ Ful B0 st wc0 wm0 wc2 wm2)) := by
  obtain ⟨G0, gr, hi, hj, rr0, n9, n128, hle, c6, c7, c8, c9, c18, hst, chri, chlj, chrj, y8, t8, m8⟩ := cst
  obtain ⟨ext, G, rb, rm, rw, fc, fm, od, sw0⟩ := inv
  have g1 := G.1
  have gi0 := gr.vt (m := 0) hi (Or.inl rfl)
  have gj0 := gr.vt (m := 4) hj (Or.inr rfl)
  obtain ⟨p1, p2, p3⟩ := pth0.vt G0 gi0.1
  have plen := pth0.len
  have ppl := p3.lt
  have kk1 : 1 ≤ kk := by have := (G0.sz_le p1.1).2.1; omega
  have gi := gi0.1.ext ext
  have gri := gi0.2.ext ext
  have glj := gj0.1.ext ext
  have grj := gj0.2.ext ext
  have vt : VT B t 0 := p1.ext ext
  have pth : Pth B s n0 (R.2.1 i) l x t p kk := pth0.ext G0 ext gi0.1
  have sw : SW B s n0 wc := sw0.ext G0 ext
  have chr : ∀ y u m, VT B0 u m → Chd B0 s 8 n0 y u m → Chd B s 8 n0 y u m := fun y u m hv h => by
    have e2 := ext.2.2.2.2 u hv.1
    unfold Chd
    rw [e2.1]
    exact h
  have dri := chr _ _ _ gi0.2 chri
  have dlj := chr _ _ _ gj0.1 chlj
  have drj := chr _ _ _ gj0.2 chrj
  have lri := dri.lt G gri (by omega)
  have llj := dlj.lt G glj (by omega)
  have lrj := drj.lt G grj (by omega)
  have hlj10 : hB B (R.2.1 j) < 10 := by
    have := (gr.2 j hj).2.2.1
    rw [(ext.2.2.2.2 _ (gr.2 j hj).1).1]
    exact this
  have tlj : tmS s ylj = R.2.1 j := by
    rcases dlj with z | z
    · omega
    · exact z.2.2.2.1
  have ex : ∀ ρ, nv B s ρ x = tv B ρ 0 t := fun ρ => by rw [nv_s x8 (by omega), htm, hms]
  have e8 : ∀ ρ, nv B s ρ 8 = tv B ρ 0 (R.2.1 i) := fun ρ => by rw [nv_s (by omega) (by omega), t8, m8]
  have elj : ∀ ρ, nv B s ρ ylj = tv B ρ 4 (R.2.1 j) := fun ρ => dlj.nv G glj (by omega)
  have eri : ∀ ρ, nv B s ρ yri = tv B ρ 0 (R.2.2.1 i) := fun ρ => dri.nv G gri (by omega)
  have erj : ∀ ρ, nv B s ρ yrj = tv B ρ 4 (R.2.2.1 j) := fun ρ => drj.nv G grj (by omega)
  -- the reference unifies
  obtain ⟨m1, q1, q2, q3⟩ := mClear (N := N) (D := dm + 545) (x1 := nI i) (x2 := nI j) (x3 := nI t) (x4 := lN p) 8 N 0 wm (by omega) (by omega) (by omega) (fun u hu => by omega)
  have fm1 : Fr mtS mtA wm0 m1 := fm.tr (q2.mn (fun _ _ => rfl) (fun k hk => by
    have a := or_f (or_f (or_f hk).1).1
    have b := or_f (or_f a.1).2
    have a2 : (k == 21) = false := a.2
    show (k == 19 || k == 21) = false
    rw [b.1, a2]
    rfl))
  have rm1 : RM B m1 := rm.k q2
  have rr1 : RRm R m1 := rr0.k fm1
  have gb0 : Gb B (fun _ => (2000, 0)) := ⟨fun v hv => Or.inl rfl, fun _ => 0, fun v hv h => absurd rfl h⟩
  have rb0 : Rb (fun _ => (2000, 0)) m1 := fun v hv => ⟨(q3 v hv).1, fun h => absurd rfl h⟩
  obtain ⟨m4, b, u1, u2, u3⟩ := mUnify (B := B) G (N := N) hN 270 dm t 0 (R.2.1 j) 4 (fun _ => (2000, 0)) m1 rm1 rb0 gb0 vt glj (fun β2 h _ => tv_ht270 G h vt)
  have fm4 : Fr mtS mtA wm0 m4 := fm1.tr u2.mtw
  have rm4 : RM B m4 := rm1.k u2
  have rr4 : RRm R m4 := rr0.k fm4
  have uni : ∀ self, ∃ rec40, bX11_meet_37 N (dm + 545) self wm (nI i) (nI j) (nI t) (lN p) = (if b = 0 then bX11_meet_212 N (dm + 545) self m4 (nI i) (nI j) (nI t) (lN p) else rec40) ∧
      rec40 = (c_ld (pI m4 12 0) 9 16 (nI i) fun v15 => c_cv (eX11_number N (dm + 545) (pI m4 12 0) v15 0) fun w16 => c_ld w16 9 16 (nI i) fun v17 => c_ld w16 10 16 (nI j) fun v18 => c_cl (eX11_builtWith N (dm + 545) w16 v17 1 (lN p) v18) fun w19 v20 => c_ld w19 10 16 (nI i) fun v21 => c_cl (eX11_built N (dm + 545) w19 v21 0) fun w22 v23 =>
        c_st w22 27 240 (4 * (sI w22 14)) (nI i) fun w24 => c_st w24 27 240 ((4 * (sI w24 14)) + 1) (nI j) fun w25 => c_st w25 27 240 ((4 * (sI w25 14)) + 2) v20 fun w26 => c_st w26 27 240 ((4 * (sI w26 14)) + 3) v23 fun w27 => c_sl w27 28 60 (sI w27 14) (lN p) fun w28 => c_pi w28 14 ((sI w28 14) + 1) fun w29 => bX11_meet_212 N (dm + 545) self w29 (nI i) (nI j) (nI t) (lN p)) := fun self => by
    obtain ⟨f2, o1⟩ := q1 self
    have k0 : bX11_meet_37 N (dm + 545) self wm (nI i) (nI j) (nI t) (lN p) = fX11_meet_40 N (dm + 545) self N wm (nI i) (nI j) (nI t) (lN p) (nI 0) := rfl
    refine ⟨_, ?_, rfl⟩
    rw [k0, o1]
    unfold bX11_meet_40
    have gr16 := gr.1
    rw [if_pos (show (8 : Int32) ≤ nI 8 by decide), ld_n (by omega) (by omega), (rr1.2 j hj).1]
    have u1' : eX11_unify N (dm + 545) m1 (nI t) 0 (nI (R.2.1 j)) 4 = some (m4, b) := u1
    rw [u1', cl_s]
    simp only [c_pi]
  -- the class's own state
  have f0 : Fr tlS tlA wc0 (pI wc 19 (nI n0)) := fc.pi (k := 19) rfl
  have sw0' : SW B0 s n0 (pI wc 19 (nI n0)) := sw0.k (S := fun k => k == 19) (A := noA) ((Fr.rf wc).pi (k := 19) rfl)
  have sw' : SW B s n0 (pI wc 19 (nI n0)) := sw0'.ext G0 ext
  have rb' : RB B (pI wc 19 (nI n0)) := rb.k (S := fun k => k == 19) (A := noA) ((Fr.rf wc).pi (k := 19) rfl)
  have od' : Old st wc0 (pI wc 19 (nI n0)) := od
  have e19 : sI (pI wc 19 (nI n0)) 19 = nI n0 := rfl
  have rwx : Rw B fs k (pI wc 19 (nI n0)) m4 := (rw.k (Nat.le_refl _) (S := fun k => k == 19) (A := noA) ((Fr.rf wc).pi (k := 19) rfl) q2).k (Nat.le_refl _) (Fr.rf (S := noS) (A := noA) _) u2
  have s6 : sI wc 6 = nI le := by rw [fc.1 6 rfl]; exact c6
  have s16 := rw.2.1
  have cpre : ∀ f, fX1_tellOf_26 N (dc + 4) (f + 1) wc (nI i) (nI j) (nI n0) (nI x) = (if nI (hB B t) = nI (hB B (R.2.1 j)) then (c_cl (eX9_unify N (dc + 4) (pI wc 19 (nI n0)) (nI x) (nI ylj)) fun w6 v7 =>
        if v7 = 0 then fX1_tellOf_26 N (dc + 4) f w6 (nI i) (nI j) (nI n0) (nI (x + 1)) else
        c_cv (eX1_numberVariables N (dc + 4) w6) fun w8 => c_cl (eX1_copyReplaced N (dc + 4) w8 (nI x)) fun w9 v10 => c_cv (eJ7_fill_53178_r33 N (dc + 4) w9 (-1)) fun w11 => c_cl (eX1_build N (dc + 4) w11 v10) fun w12 v13 =>
          if v13 = (-4) then some (w12, 0) else (c_cl (eX1_build N (dc + 4) w12 (sI w12 7)) fun w14 v15 => if v15 = (-4) then some (w14, 0) else (c_ll w14 55 158 (nI x) fun v16 => c_cv (eX2_add N (dc + 4) w14 (nI i) (nI j) v16 v13 v15) fun w17 => fX1_tellOf_26 N (dc + 4) f w17 (nI i) (nI j) (nI n0) (nI (x + 1)))))
      else fX1_tellOf_26 N (dc + 4) f (pI wc 19 (nI n0)) (nI i) (nI j) (nI n0) (nI (x + 1))) := fun f => by
    have k0 : fX1_tellOf_26 N (dc + 4) (f + 1) wc (nI i) (nI j) (nI n0) (nI x) = bX1_tellOf_26 N (dc + 4) (fX1_tellOf_26 N (dc + 4) f) wc (nI i) (nI j) (nI n0) (nI x) := rfl
    rw [k0]
    unfold bX1_tellOf_26 bX1_tellOf_178 bX1_tellOf_144 bX1_tellOf_178
    have k50 : aI (pI wc 19 (nI n0)) 50 x = nI (hB B t) := by rw [← htm]; exact (sw' x x8 (by omega)).2.2.2.2.2.2.1
    have k50j : aI (pI wc 19 (nI n0)) 50 ylj = nI (hB B (R.2.1 j)) := by rw [← tlj]; exact (sw' ylj y8 llj).2.2.2.2.2.2.1
    have k8 : sI (pI wc 19 (nI n0)) 8 = nI ylj := by rw [f0.1 8 rfl]; exact c8
    rw [s6, if_neg (by rw [nI_leI (by omega) (by omega)]; omega), s16, if_neg (by rw [show (60 : Int32) = nI 60 from rfl, nI_leI (by omega) (by omega)]; omega)]
    simp only [c_pi, c_nm]
    rw [ld_n (by omega) (by omega), k50, k8, ld_n (by omega) (by omega), k50j]
    simp only [nI_1, if_pos]
  generalize hcw : pI wc 19 (nI n0) = cw at *
  -- no solution
  have nosol : b = 0 → ∀ ρ, nv B s ρ x ≠ nv B s ρ ylj := fun hb0 ρ e => by
    rcases u3 with ⟨z, _⟩ | ⟨_, z⟩
    · rw [hb0] at z; exact absurd z (by decide)
    · exact z ρ (fun v hv h => absurd rfl h) (by rw [← ex, ← elj]; exact e)
  have sol : b ≠ 0 → ∃ β, Gb B β ∧ Rb β m4 ∧ ∀ ρ, sat B β ρ ↔ nv B s ρ x = nv B s ρ ylj := fun hb0 => by
    rcases u3 with ⟨_, β, z1, z2, z3, z4⟩ | ⟨z, _⟩
    · refine ⟨β, z1, z3, fun ρ => ?_⟩
      rw [z4 ρ, ex, elj]
      exact ⟨fun h => h.2, fun h => ⟨fun v hv h => absurd rfl h, h⟩⟩
    · exact absurd z hb0
  have no_case : ∀ c2, b = 0 → Fr tlS tlA wc0 c2 → RB B c2 → Old st wc0 c2 → SW B0 s n0 c2 → Rw B fs k c2 m4 → (∀ f, fX1_tellOf_26 N (dc + 4) (f + 1) wc (nI i) (nI j) (nI n0) (nI x) = fX1_tellOf_26 N (dc + 4) f c2 (nI i) (nI j) (nI n0) (nI (x + 1))) →
      ∃ wc2 wm2, (∀ self, bX11_meet_37 N (dm + 545) self wm (nI i) (nI j) (nI t) (lN p) = bX11_meet_212 N (dm + 545) self wm2 (nI i) (nI j) (nI t) (lN p)) ∧
      ((∃ B2 k2, (∀ f, fX1_tellOf_26 N (dc + 4) (f + 1) wc (nI i) (nI j) (nI n0) (nI x) = fX1_tellOf_26 N (dc + 4) f wc2 (nI i) (nI j) (nI n0) (nI (x + 1))) ∧ LI B0 s n0 st fs wc0 wm0 B2 k2 wc2 wm2) ∨
       ((∀ f, fX1_tellOf_26 N (dc + 4) (f + 1) wc (nI i) (nI j) (nI n0) (nI x) = some (wc2, 0)) ∧ Ful B0 st wc0 wm0 wc2 wm2)) := fun c2 hb0 g1 g2 g3 g4 g5 g6 =>
    ⟨c2, m4, fun self => by
      obtain ⟨_, o1, _⟩ := uni self
      rw [o1, if_pos hb0], Or.inl ⟨B, k, g6, ext, G, g2, rm4, g5, g1, fm4, g3, g4⟩⟩
  by_cases eh : hB B t = hB B (R.2.1 j)
  · obtain ⟨w6, r, v1, v2, v3⟩ := cUnify (B := B) (s := s) (N := N) (d := dc + 1) hN G (by omega) (by omega) sw' e19 (by omega : x < n0) llj
    have v1' : eX9_unify N (dc + 4) cw (nI x) (nI ylj) = some (w6, r) := v1
    have f6 : Fr tlS tlA wc0 w6 := f0.tr v2.tlu
    rcases v3 with ⟨hr, hno⟩ | ⟨hr, bc, rk, bcc, b59, rk1, rk2⟩
    · have hb0 : b = 0 := by
        apply Decidable.byContradiction
        intro z
        obtain ⟨β, gb, _, hs⟩ := sol z
        exact hno _ ((hs _).mp (ρB_sat G gb))
      refine no_case w6 hb0 f6 (rb'.k v2) (od'.tr (Old.of v2)) (sw0'.k v2) (rwx.k (Nat.le_refl _) v2 (Fr.rf (S := noS) (A := noA) _)) (fun f => ?_)
      rw [cpre, if_pos (by rw [eh]), v1', cl_s, hr, if_pos i00]
    · have hb1 : b ≠ 0 := fun z => nosol z _ (ρC_sol G (by omega) (by omega) sw' bcc rk1 rk2 _ _ (by omega) llj bcc.2.1)
      obtain ⟨β, gb, rbβ, hs⟩ := sol hb1
      have ctx : ∀ u, u < nB B0 → ctB B u = ctB B0 u := fun u hu => (ext.2.2.2.2 u hu).2.2.2.2.2
      have gri0 := gr.2 i hi
      have grj0 := gr.2 j hj
      obtain ⟨k1, k2, k3, k4, k5, k6, k7, k8⟩ := link G (by omega) (by omega) sw' bcc rk1 rk2 gb hs (by omega : x < n0) llj gi gri glj grj e8 ex elj eri erj
        (fun v hv h => by
          rw [ctx _ grj0.1]
          rw [ctx _ grj0.2.1] at h
          apply Decidable.byContradiction
          intro z
          have := grj0.2.2.2.2.2.2 v hv (by omega)
          omega)
        (fun v hv h => by
          rw [ctx _ gri0.1]
          rw [ctx _ gri0.2.1] at h
          apply Decidable.byContradiction
          intro z
          have := gri0.2.2.2.2.2.2 v hv (by omega)
          omega) pth
      have ts := TS.of G (by omega) (by omega) sw' bcc rk1 rk2
      have ta := sw'.ta G (by omega) (by omega)
      generalize hT : nv B s (ρC B s bc) = T at k1 k2 k3 k4 k5 k6 k7 k8 ts
      generalize hlr : addV [] (vs (TR B β 0 (R.2.1 i))) = lr at k1 k2 k3 k4 k5 k6 k7 k8
      generalize hlc : addV [] (vs (T 8)) = lc at k1 k2 k3 k4 k5 k6 k7 k8
      -- the class numbers, copies
      have sw6 : SW B s n0 w6 := sw'.k v2
      have tw6 : TW n0 (hdS B s) (f1S s) (f2S s) bc w6 := ⟨b59, fun z z8 hz => by
        obtain ⟨_, _, _, _, _, _, a7, a8, a9, _⟩ := sw6 z z8 hz
        exact ⟨a7, a8, a9⟩⟩
      have e6 : sI w6 19 = nI n0 := by rw [v2.1 19 rfl]; exact e19
      obtain ⟨w8, n1, n2, n3, n4⟩ := cNumber (N := N) (d := dc + 2) hN ts (by omega) (by omega) tw6 e6
      rw [hlc] at n3 n4
      have n1' : eX1_numberVariables N (dc + 4) w6 = some w8 := n1
      have f8 : Fr tlS tlA wc0 w8 := f6.tr n2.tln
      obtain ⟨w9, nn, hd2, f12, f22, T2, y, o1, o2, o3, o4, o5, o6, o7, o8, o9⟩ := cCopyR (N := N) (d := dc + 2) (x := x) (inner := yrj) (l := l) (w := w8) hN (by omega) ta ts (tw6.k n2) (Anc.k (f8.2 53 rfl).1 (f8.2 54 rfl).1 l x anc) (by omega) lrj (by rw [f8.1 9 rfl]; exact c9) (by rw [n2.1 19 rfl]; exact e6) (by omega) (by omega)
      have o1' : eX1_copyReplaced N (dc + 4) w8 (nI x) = some (w9, nI y) := o1
      have f9 : Fr tlS tlA wc0 w9 := f8.tr o2.tlc
      have nn158 := o4.2.2.2.2
      have fl : eJ7_fill_53178_r33 N (dc + 4) w9 (-1) = some (pA w9 33 (fil (aI w9 33) 0 158 (-1))) := fill33 (d := dc + 3) hN
      have f33 : Fr noS (fun k => k == 33) w9 (pA w9 33 (fil (aI w9 33) 0 158 (-1))) := (Fr.rf w9).pa (k := 33) rfl
      have bw11 : BW nn (fun _ => 2000) (pA w9 33 (fil (aI w9 33) 0 158 (-1))) := fun z hz => fil_in (by omega) (by omega)
      have f11 : Fr tlS tlA wc0 (pA w9 33 (fil (aI w9 33) 0 158 (-1))) := f9.pa (k := 33) rfl
      generalize pA w9 33 (fil (aI w9 33) 0 158 (-1)) = w11 at fl f33 bw11 f11
      have rb11 : RB B w11 := (((rb'.k v2).k n2).k o2).k f33
      have tw11 := o5.k f33
      have sw8 : SW B s n0 w8 := sw6.k n2
      have sw08 : SW B0 s n0 w8 := (sw0'.k v2).k n2
      have sw09 : SW B0 s n0 w9 := fun z z8 hz => by
        obtain ⟨_, _, _, _, _, _, a7, a8, a9, _⟩ := sw8 z z8 hz
        obtain ⟨d1, d2, d3, d4, d5, d6, d7, d8, d9, d10⟩ := sw08 z z8 hz
        obtain ⟨t1, t2, t3⟩ := o5.2 z z8 (by omega)
        obtain ⟨g1, g2, g3, g4⟩ := o7.1 z hz
        refine ⟨d1, d2, d3, d4, d5, d6, ?_, ?_, ?_, by rw [(o2.2 56 rfl).1]; exact d10⟩
        · rw [t1, g1, ← d7]; exact a7.symm
        · rw [t2, g2]
        · rw [t3, g3]
      have sw011 : SW B0 s n0 w11 := sw09.k f33
      have od11 : Old st wc0 w11 := (((od'.tr (Old.of v2)).tr (Old.of n2)).tr (Old.of o2)).tr (Old.of f33)
      have rw11 : ∀ m, Rw B fs k cw m → Rw B fs k w11 m := fun m h => (((h.k (Nat.le_refl _) v2 (Fr.rf (S := noS) (A := noA) _)).k (Nat.le_refl _) n2 (Fr.rf (S := noS) (A := noA) _)).k (Nat.le_refl _) o2 (Fr.rf (S := noS) (A := noA) _)).k (Nat.le_refl _) f33 (Fr.rf (S := noS) (A := noA) _)
      have lc8 := n4.le
      have nu : ∀ τ : Tr, (∀ u, u ∈ vs τ → u ∈ lc) → NuW τ (ix lc) w11 := fun τ h u hu => by
        have := ix_lt lc (h u hu)
        exact ⟨by omega, by rw [(f33.2 31 rfl).1, (o2.2 31 rfl).1]; exact n3 u (h u hu)⟩
      have wtT : ∀ z, z < nn → tht (T2 z) ≤ 310 → (∀ u, u ∈ vs (T2 z) → u ∈ lc) → WT (sB B) (arB B) (nmT (ix lc) (T2 z)) := fun z hz hh h => o4.wt o6 310 z hh hz (fun u hu => by have := ix_lt lc (h u hu); omega)
      have eTy : T2 y = Kt (hdS B s) (f1S s) (f2S s) T l (T yrj) := o9
      have eTr : T2 yri = T yri := (o7.1 yri lri).2.2.2
      -- the reference numbers
      have fm14 : Fr mtS mtA wm0 (pI m4 12 0) := fm4.pi (k := 12) rfl
      have p12 : Fr (fun k => k == 12) noA m4 (pI m4 12 0) := (Fr.rf m4).pi (k := 12) rfl
      have u21 : ∀ v, v < 8 → aI (pI m4 12 0) 21 v = -1 := fun v hv => by
        show aI m4 21 v = -1
        rw [(u2.2 21 rfl).1]; exact (q3 v hv).2
      have nok : NumOK [] (pI m4 12 0) := ⟨LN.nil, rfl, fun v hv => ⟨fun h => (by cases h), fun _ => u21 v hv⟩⟩
      obtain ⟨m16, g1, g2, g3⟩ := mNumber (B := B) G (N := N) (β := β) hN gb 270 (dm + 272) (R.2.1 i) 0 [] (pI m4 12 0) (rm4.k p12) (rbβ.k p12) gi (tv_ht270 G gb gi) nok
      rw [hlr] at g2
      have g1' : eX11_number N (dm + 545) (pI m4 12 0) (nI (R.2.1 i)) 0 = some m16 := g1
      have fm16 : Fr mtS mtA wm0 m16 := fm14.tr g3.mtn
      have rm16 : RM B m16 := (rm4.k p12).k g3
      have rb16 : Rb β m16 := (rbβ.k p12).k g3
      have rr16 : RRm R m16 := rr0.k fm16
      have rr14 : RRm R (pI m4 12 0) := rr0.k fm14
      have lr8 := g2.1.le
      have nko : ∀ τ : Tr, (∀ u, u ∈ vs τ → u ∈ lr) → NOK (ix lr) τ m16 := fun τ h u hu => by
        have h1 := ix_lt lr (h u hu)
        have h2 := g2.1.1 u (h u hu)
        exact ⟨h2, by omega, (g2.2.2 u h2).1 (h u hu)⟩
      have bw := mBuiltWith (N := N) (other := R.2.2.1 j) (at' := lN p) (β := β) (num := ix lr) hN 30 (dm + 241) (R.2.1 i) (lN 1) B m16 G gb grj rm16 rb16 gi gi.2.1 (nko _ k3)
      have gr16 := gr.1
      -- what the reference does with what is built
      have refq : ∀ m19 v20 m22 v23, eX11_builtWith N (dm + 545) m16 (nI (R.2.1 i)) 1 (lN p) (nI (R.2.2.1 j)) = some (m19, v20) → RRm R m19 → eX11_built N (dm + 545) m19 (nI (R.2.2.1 i)) 0 = some (m22, v23) → sI m22 14 = nI k → ∃ m29, (∀ self, bX11_meet_37 N (dm + 545) self wm (nI i) (nI j) (nI t) (lN p) = bX11_meet_212 N (dm + 545) self m29 (nI i) (nI j) (nI t) (lN p)) ∧
          Fr (fun k => k == 14) (fun k => k == 27 || k == 28) m22 m29 ∧ sI m29 14 = nI (k + 1) ∧ aI m29 27 (4 * k) = nI i ∧ aI m29 27 (4 * k + 1) = nI j ∧ aI m29 27 (4 * k + 2) = v20 ∧ aI m29 27 (4 * k + 3) = v23 ∧ aL m29 28 k = lN p ∧ (∀ q, q < 4 * k → aI m29 27 q = aI m22 27 q) ∧ ∀ q, q < k → aL m29 28 q = aL m22 28 q := fun m19 v20 m22 v23 e1 rr19 e2 h14 => by
        obtain ⟨m29, z1, z2⟩ := mRow (x1 := nI i) (x2 := nI j) (v1 := v20) (v2 := v23) (x4 := lN p) hk h14
        refine ⟨m29, fun self => ?_, z2⟩
        obtain ⟨rec40, y1, y2⟩ := uni self
        rw [y1, if_neg hb1, y2, ld_n (by omega) (by omega), (rr14.2 i hi).1, g1', cv_s, ld_n (by omega) (by omega), (rr16.2 i hi).1, ld_n (by omega) (by omega), (rr16.2 j hj).2.1, e1, cl_s, ld_n (by omega) (by omega), (rr19.2 i hi).2.1, e2, cl_s]
        exact z1 _
      have rwm : ∀ B2 m22, nB B ≤ nB B2 → Fr mtS mtA m16 m22 → sI m22 14 = sI m16 14 → aI m22 27 = aI m16 27 → aL m22 28 = aL m16 28 → Rw B2 fs k w11 m22 := fun B2 m22 en fx a14 a27 a28 => by
        have h := (rw11 m4 rwx).k en (Fr.rf (S := noS) (A := noA) _) ((p12.mn (S2 := fun k => nuS k) (A2 := nuA) (fun k hk => (or_f hk).2) (fun _ _ => rfl)).tr g3)
        unfold Rw
        rw [a14, a27, a28]
        exact h
      have loop : ∀ f, fX1_tellOf_26 N (dc + 4) (f + 1) wc (nI i) (nI j) (nI n0) (nI x) = (c_cl (eX1_build N (dc + 4) w11 (nI y)) fun w12 v13 =>
          if v13 = (-4) then some (w12, 0) else (c_cl (eX1_build N (dc + 4) w12 (sI w12 7)) fun w14 v15 => if v15 = (-4) then some (w14, 0) else (c_ll w14 55 158 (nI x) fun v16 => c_cv (eX2_add N (dc + 4) w14 (nI i) (nI j) v16 v13 v15) fun w17 => fX1_tellOf_26 N (dc + 4) f w17 (nI i) (nI j) (nI n0) (nI (x + 1))))) := fun f => by
        rw [cpre, if_pos (by rw [eh]), v1', cl_s, hr, if_neg i10, n1', cv_s, o1', cl_s, fl, cv_s]
      obtain ⟨cb1, cb2⟩ := cBuild (N := N) (d := dc) (b := fun _ => 2000) (num := ix lc) hN o4 o8 (by rw [eTy]; omega) tw11 bw11 (fun z _ h => absurd rfl h) G rb11 o6 (wtT y o8 (by rw [eTy]; omega) (by rw [eTy]; exact k5)) (by rw [eTy]; exact nu _ k5)
      rw [eTy, k1] at cb1 cb2
      cases hb1 : bt (nmT (ix lr) (rpF B β (R.2.2.1 j) (lN p) 30 (R.2.1 i) (lN 1))) B with
      | none =>
        obtain ⟨w12, B2, a1, a2, a3, a4, a5⟩ := cb2 hb1
        obtain ⟨m19, v20, b1, b2, b3⟩ := bw.2 hb1
        obtain ⟨ho, B3, G3, e3, rm3⟩ := b2
        have b1' : eX11_builtWith N (dm + 545) m16 (nI (R.2.1 i)) 1 (lN p) (nI (R.2.2.1 j)) = some (m19, v20) := b1
        obtain ⟨m22, v23, d1, d2⟩ := mBuiltO (B := B3) G3 (N := N) (β := β) hN (gb.ext e3) 270 (dm + 272) (R.2.2.1 i) 0 m19 ho rm3 (rb16.bu b3) (gri.ext e3) (tv_ht270 G3 (gb.ext e3) (gri.ext e3))
        have fm19 : Fr mtS mtA wm0 m19 := fm16.tr b3.mtb
        have h14 : sI m22 14 = nI k := by rw [d2.1 14 rfl, b3.1 14 rfl, g3.1 14 rfl]; exact rwx.2.2.1
        obtain ⟨m29, z1, z2, _⟩ := refq m19 v20 m22 v23 b1' (rr0.k fm19) d1 h14
        have z2' : Fr mtS mtA m22 m29 := z2.mn (fun k hk => (or_f hk).2) (fun k hk => by
          have a := or_f (or_f hk).1
          have c : (k == 28) = false := (or_f hk).2
          show (k == 27 || k == 28) = false
          rw [a.2, c]; rfl)
        refine ⟨w12, m29, z1, Or.inr ⟨fun f => ?_, ⟨B2, a4, ext.tr a5, a3⟩, f11.tr a2.tlb, od11.tr (Old.of a2), ⟨?_, B3, G3, ext.tr e3, ?_⟩, (fm19.tr d2.mtx).tr z2'⟩⟩
        · rw [loop, a1, cl_s, if_pos rfl]
        · rw [z2.1 4 rfl, d2.1 4 rfl]; exact ho
        · exact (rm3.xk d2).xk z2
      | some zz =>
        obtain ⟨B1, r1⟩ := zz
        obtain ⟨b2, w12, a1, a2, a3, a4, a5⟩ := cb1 B1 r1 hb1
        obtain ⟨m19, d1, d2, d3, d4, d5, d6⟩ := bw.1 B1 r1 hb1
        have d1' : eX11_builtWith N (dm + 545) m16 (nI (R.2.1 i)) 1 (lN p) (nI (R.2.2.1 j)) = some (m19, nI r1) := d1
        have gg1 := d3.1
        have s7 : sI w12 7 = nI yri := by rw [a2.1 7 rfl, f11.1 7 rfl]; exact c7
        have fm19 : Fr mtS mtA wm0 m19 := fm16.tr d6.mtb
        have tre : TR B1 β 0 (R.2.2.1 i) = TR B β 0 (R.2.2.1 i) := TR.ext G d3 d4 gb gri
        obtain ⟨cc1, cc2⟩ := cBuild (N := N) (d := dc) (b := b2) (num := ix lc) (root := yri) hN o4 (by omega) (by rw [eTr]; omega) (tw11.k a2) a4 a5 d3 a3 (o6.ext d4) (by rw [d4.2.1, d4.2.2.1]; exact wtT yri (by omega) (by rw [eTr]; omega) (by rw [eTr]; exact k6)) (by rw [eTr]; exact (nu _ k6).k a2)
        rw [eTr, k2] at cc1 cc2
        have bm := mBuilt (N := N) (β := β) (num := ix lr) hN 270 (dm + 272) (R.2.2.1 i) 0 B1 m19 d3 (gb.ext d4) d2 (rb16.bu d6) (gri.ext d4) (tv_ht270 d3 (gb.ext d4) (gri.ext d4)) (by rw [tre]; exact (nko _ k4).k d6)
        rw [tre] at bm
        have f12 : Fr tlS tlA wc0 w12 := f11.tr a2.tlb
        have od12 : Old st wc0 w12 := od11.tr (Old.of a2)
        cases hb2 : bt (nmT (ix lr) (TR B β 0 (R.2.2.1 i))) B1 with
        | none =>
          obtain ⟨w14, B2, e1, e2, e3, e4, e5⟩ := cc2 hb2
          obtain ⟨m22, v23, h1, h2, h3⟩ := bm.2 hb2
          obtain ⟨ho, B3, G3, x3, rm3⟩ := h2
          have h1' : eX11_built N (dm + 545) m19 (nI (R.2.2.1 i)) 0 = some (m22, v23) := h1
          have h14 : sI m22 14 = nI k := by rw [h3.1 14 rfl, d6.1 14 rfl, g3.1 14 rfl]; exact rwx.2.2.1
          obtain ⟨m29, z1, z2, _⟩ := refq m19 (nI r1) m22 v23 d1' (rr0.k fm19) h1' h14
          have z2' : Fr mtS mtA m22 m29 := z2.mn (fun k hk => (or_f hk).2) (fun k hk => by
            have a := or_f (or_f hk).1
            have c : (k == 28) = false := (or_f hk).2
            show (k == 27 || k == 28) = false
            rw [a.2, c]; rfl)
          refine ⟨w14, m29, z1, Or.inr ⟨fun f => ?_, ⟨B2, e4, (ext.tr d4).tr e5, e3⟩, f12.tr e2.tlb, od12.tr (Old.of e2), ⟨?_, B3, G3, (ext.tr d4).tr x3, ?_⟩, (fm19.tr h3.mtb).tr z2'⟩⟩
          · rw [loop, a1, cl_s, if_neg (nI_m4 (by omega)), s7, e1, cl_s, if_pos rfl]
          · rw [z2.1 4 rfl]; exact ho
          · exact rm3.xk z2
        | some zz =>
          obtain ⟨B2, r2⟩ := zz
          obtain ⟨b3, w14, e1, e2, e3, e4, e5⟩ := cc1 B2 r2 hb2
          obtain ⟨m22, h1, h2, h3, h4, h5, h6⟩ := bm.1 B2 r2 hb2
          have gg2 := h3.1
          have h1' : eX11_built N (dm + 545) m19 (nI (R.2.2.1 i)) 0 = some (m22, nI r2) := h1
          have h14 : sI m22 14 = nI k := by rw [h6.1 14 rfl, d6.1 14 rfl, g3.1 14 rfl]; exact rwx.2.2.1
          obtain ⟨m29, z1, z2, z3, z4, z5, z6, z7, z8, z9, z10⟩ := refq m19 (nI r1) m22 (nI r2) d1' (rr0.k fm19) h1' h14
          have z2' : Fr mtS mtA m22 m29 := z2.mn (fun k hk => (or_f hk).2) (fun k hk => by
            have a := or_f (or_f hk).1
            have c : (k == 28) = false := (or_f hk).2
            show (k == 27 || k == 28) = false
            rw [a.2, c]; rfl)
          have f14 : Fr tlS tlA wc0 w14 := f12.tr e2.tlb
          have rw22 : Rw B2 fs k w14 m22 := (rwm B2 m22 (by have := d4.1; have := h4.1; omega) (d6.mtb.tr h6.mtb) (by rw [h6.1 14 rfl, d6.1 14 rfl]) (by rw [(h6.2 27 rfl).1, (d6.2 27 rfl).1]) (by rw [(h6.2 28 rfl).2, (d6.2 28 rfl).2])).k (Nat.le_refl _) (a2.tr e2) (Fr.rf (S := noS) (A := noA) _)
          obtain ⟨w17, y1, y2, y3, y4, y5, y6, y7, y8, y9⟩ := cAddP (N := N) (d := dc + 3) (k := k) (fs := fs) (w := w14) (x1 := nI i) (x2 := nI j) (v1 := nI r1) (v2 := nI r2) (x4 := lN p) hk (by omega) rw22.2.1 (by rw [f14.1 18 rfl]; exact c18)
          have y2' : Fr tlS tlA w14 w17 := y2.mn (fun k hk => (or_f hk).2) (fun k hk => (or_f hk).2)
          have y1' : eX2_add N (dc + 4) w14 (nI i) (nI j) (lN p) (nI r1) (nI r2) = some w17 := y1
          have h414 : aL w14 55 x = lN p := by rw [(f14.2 55 rfl).2]; exact h55
          refine ⟨w17, m29, z1, Or.inl ⟨B2, k + 1, fun f => ?_, (ext.tr d4).tr h4, h3, e3.k y2, ?_, ?_, f14.tr y2', (fm19.tr h6.mtb).tr z2', ?_, ?_⟩⟩
          · rw [loop, a1, cl_s, if_neg (nI_m4 (by omega)), s7, e1, cl_s, if_neg (nI_m4 (by omega)), ll_n (by omega) (by omega), h414, y1', cv_s]
          · exact h2.k z2
          · exact rw22.add hk (Nat.le_refl _) (by have := h4.1; omega) h5 y3 z3 y4 y5 y6 y7 y8 y9 z4 z5 z6 z7 z8 z9 z10
          · refine (od12.tr (Old.of e2)).tr (fun q hq => ?_)
            have := y9 (st + q) (by have := rw.1; omega)
            exact this
          · exact ((sw011.k a2).k e2).k y2
  · have hb0 : b = 0 := by
      apply Decidable.byContradiction
      intro z
      obtain ⟨β, gb, _, hs⟩ := sol z
      have := (hs _).mp (ρB_sat G gb)
      rw [ex, elj, tv_eq G vt.1, tv_eq G glj.1, if_pos hlj10] at this
      have t10 : hB B t < 10 := by rw [← htm]; exact (sw' x x8 (by omega)).2.1
      rw [if_pos t10] at this
      exact eh (nd_inj this).1
    have la := (G.a_le vt.1).2.2
    have lb := (G.a_le glj.1).2.2
    refine no_case cw hb0 f0 rb' od' sw0' rwx (fun f => ?_)
    rw [cpre, if_neg (fun z => eh ((nI_eq (by omega) (by omega)).mp z))]
