/-! judge -/
theorem mCopyL {N d : Nat} : ∀ n j w, j ≤ 4 → 4 < n + j → ∃ f, fX11_judge_75 N d n w (nI j) = some (pA w 33 f, if sI w 16 = 0 then 2 else 0) ∧ ∀ v, v < 4 → f v = if j ≤ v then aI w 32 v else aI w 33 v := by
  intro n
  induction n with
  | zero => intro j w h1 h2; omega
  | succ n ih =>
    intro j w h1 h2
    have key : fX11_judge_75 N d (n + 1) w (nI j) = bX11_judge_75 N d (fX11_judge_75 N d n) w (nI j) := rfl
    rw [key]
    unfold bX11_judge_75 bX11_judge_110
    simp only [c_nm]
    by_cases e : j = 4
    · rw [if_pos (show (4 : Int32) ≤ nI j by rw [e]; decide)]
      refine ⟨aI w 33, ?_, fun v hv => by rw [if_neg (by omega)]⟩
      rw [pA_eta]
      split <;> rfl
    · rw [if_neg (show ¬ (4 : Int32) ≤ nI j from fun z => e (by rw [show (4 : Int32) = nI 4 from rfl, nI_leI (by omega) (by omega)] at z; omega)), ld_n (by omega) (by omega), st_n (by omega) (by omega), nI_1]
      obtain ⟨f, f1, f2⟩ := ih (j + 1) (pA w 33 (upd (aI w 33) j (aI w 32 j))) (by omega) (by omega)
      refine ⟨f, by rw [f1, pA_pA]; rfl, fun v hv => ?_⟩
      rw [f2 v hv]
      by_cases q : j + 1 ≤ v
      · rw [if_pos q, if_pos (by omega)]
        rfl
      · rw [if_neg q, aI_pA, if_pos rfl]
        by_cases q2 : v = j
        · rw [q2, upd_s, if_pos (by omega)]
        · rw [upd_n q2, if_neg (by omega)]
theorem dg0 {b v : Nat} : dg b 0 v = 0 := by unfold dg; rw [Nat.zero_div, Nat.zero_mod]
theorem op_judge {N d : Nat} (hN : 2000000 ≤ N) : Op_judge N (d + 1040) II := by
  intro t wc wm x ht600 h
  obtain ⟨B, R, G, gr, rb, rm, rc, rr, ru, rp, rt, rs0⟩ := id h
  have g1 := G.1
  have gr1 := gr.1
  have key : eX10_judge N (d + 1040) wc x = bX10_judge_0 N (d + 1039) wc x := rfl
  have key2 : eX11_judge N (d + 1040) wm x = bX11_judge_0 N (d + 1039) wm x := rfl
  have rm1 : RM B (pI wm 0 0) := rm
  have rr1 : RRm R (pI wm 0 0) := rr
  rw [key, key2]
  unfold bX10_judge_0 bX11_judge_0 bX10_judge_127
  simp only [c_pi, c_nm]
  rw [cIsRule rc, cl_s, mIsRule gr1 rr1, cl_s]
  rcases iw_cases (n := R.1) (by omega) x with ⟨r, hr, er, qr⟩ | ⟨_, q⟩
  · obtain ⟨a1, a2, a3, a4, a5, a6, a7⟩ := gr.2 r hr
    simp only [qr, i10, if_false]
    rw [er, ld_n (by omega) (by omega), (rc.2 r hr).1, ld_n (by omega) (by omega), (rc.2 r hr).2.1, ld_n (by omega) (by omega), (rr1.2 r hr).1, ld_n (by omega) (by omega), (rr1.2 r hr).2.1, rb.2.1]
    obtain ⟨w10, c2, m2, v, B2, j1, j2, j3, j4, j5, j6, j7, j8, j9, j10, j11⟩ := join2 (N := N) (dc := d + 1003) (dm := d + 1) (ex := r) (wm := pI wm 0 0) hN (Or.inl (by omega)) ht600 G gr rb rm1 rc rr rs0 a1 a2
    rw [eN_n (by omega)] at j1 j3
    have j12 : eX3_joins N (d + 1039) wc (nI (R.2.1 r)) (nI (R.2.2.1 r)) (nI r) = _ := j1
    have j13 : eX10_undoIfFull N (d + 1039) w10 v (nI (nB B)) = _ := j2
    have j14 : eX11_joined N (d + 1039) (pI wm 0 0) (nI (R.2.1 r)) (nI (R.2.2.1 r)) (nI r) = _ := j3
    rw [j12, cl_s, j13, cl_s, j14, cl_s]
    have fm : Fr omS omA wm m2 := ((Fr.rf wm).pi rfl).tr j9
    have ru2 : RU c2 m2 := ru.k j8 fm
    have rp2 : RP B2 c2 m2 := rp.k j5.1 j8 fm
    have rt2 : RT B2 c2 m2 := rt.k j5.2.1 j8 fm
    have rc2 : RRc R c2 := rc.k j8
    have rr2 : RRm R m2 := rr.k fm
    by_cases v4 : v = -4
    · rw [if_pos v4, if_pos v4]
      exact ⟨c2, m2, _, rfl, rfl, B2, R, j4, gr.ext j5, j6, j7, rc2, rr2, ru2, rp2, rt2, j10⟩
    rw [if_neg v4, if_neg v4]
    obtain ⟨n, t1, t2, t3, t4, t5, t6, t7⟩ := id rt2
    have t2' : sI (pI c2 11 0) 10 = nI n := t2
    have t3' : sI (pI m2 16 0) 15 = nI n := t3
    have rt3 : RT B2 (pI c2 11 0) (pI m2 16 0) := ⟨n, t1, t2, t3, Or.inl rfl, rfl, fun hz => absurd (show (0 : Int32) = 1 from hz) (by decide), t7⟩
    have base : II (t + 1) (pI c2 11 0) (pI m2 16 0) := ⟨B2, R, j4, gr.ext j5, j6, j7, rc2, rr2, ru2, rp2, rt3, j10⟩
    by_cases v1 : v = 1
    · rw [if_pos v1, if_pos v1]
      exact ⟨_, _, _, rfl, rfl, base⟩
    rw [if_neg v1, if_neg v1, t2', t3']
    by_cases q0 : n = 0
    · rw [if_pos ((n0 t1).mpr q0), if_pos ((n0 t1).mpr q0)]
      exact ⟨_, _, _, rfl, rfl, base⟩
    rw [if_neg (fun z => q0 ((n0 t1).mp z)), if_neg (fun z => q0 ((n0 t1).mp z))]
    obtain ⟨b1, b2, b3, b4, b5, b6, b7⟩ := (gr.ext j5).2 r hr
    have g21 := j4.1
    obtain ⟨u1, u2, u3⟩ := t7 (by omega)
    have tb := fun j hj => tI_n t1 (u1 j hj).2
    have hb : n + 1 = 2 ∨ n + 1 = 3 ∨ n + 1 = 4 := by omega
    have hT : (n + 1) ^ 4 ≤ 256 := by rcases hb with q | q | q <;> rw [q] <;> decide
    have hT0 : 0 < (n + 1) ^ 4 := Nat.pow_pos (by omega)
    -- the class
    have f2w : Fr (fun _ => false) (fun k => k == 37) (pI c2 11 0) (pA (pI c2 11 0) 37 (fil (aI (pI c2 11 0) 37) 0 8 0)) := (Fr.rf _).pa rfl
    generalize hw2 : pA (pI c2 11 0) 37 (fil (aI (pI c2 11 0) 37) 0 8 0) = w2 at f2w
    have j6' : RB B2 (pI c2 11 0) := j6
    have rbw2 : RB B2 w2 := j6'.k f2w
    obtain ⟨x1, y1, y2, y3⟩ := cRefL j4 (N := N) (d := d + 1006) (nv := n) (tab := tI (aI c2 35)) hN ⟨by omega, t1⟩ b1 b2 (fun j hj => by have := (tb j hj).2; omega) b4 b5 N 0 0 w2 rbw2 (by rw [f2w.1 10 rfl]; exact t2) (fun j hj => by rw [(f2w.2 35 rfl).1]; exact (tb j hj).1) hT0 (by omega) (by omega) (fun v hv => Or.inl dg0) (fun v hv => by
      rw [← hw2, aI_pA, if_pos rfl, fil_in (by omega) (by omega), dg0]; rfl) (fun v hv _ => by
      rw [← hw2, aI_pA, if_pos rfl, fil_in (by omega) hv])
    rw [Nat.sub_zero] at y2 y3
    have ec : ∀ z, fX7_refutes_13 N (d + 1038) N w2 (nI (R.2.1 r)) (nI (R.2.2.1 r)) 1 (nI 0) = some (x1, z) → eX7_refutes N (d + 1039) (pI c2 11 0) (nI (R.2.1 r)) (nI (R.2.2.1 r)) = some (x1, z) := fun z hz => by
      show bX7_refutes_0 N (d + 1038) (pI c2 11 0) (nI (R.2.1 r)) (nI (R.2.2.1 r)) = _
      unfold bX7_refutes_0
      rw [fill37 hN, cv_s, hw2]
      exact hz
    -- the reference
    have rmx : RM B2 (pI m2 16 0) := j7
    obtain ⟨x2, z1, z2, z3⟩ := mRefL j4 (N := N) (d := d + 36) (b := n + 1) (r := r) (tab := tI (aI c2 35)) hN hb (by omega) b1 b2 (fun j hj => by have := (tb j hj).2; omega) b6 b7 N ((n + 1) ^ 4) 0 (pI m2 16 0) rmx (rr2.2 r hr).1 (rr2.2 r hr).2.1 (fun j hj => by
      rw [← (tb j hj).1]
      exact (u1 j hj).1) (by omega) (by omega)
    have em : ∀ z, fX11_refutes_9 N (d + 1038) N (pI m2 16 0) (nI r) (nI (n + 1)) (nI 0) = some (x2, z) → eX11_refutes N (d + 1039) (pI m2 16 0) (nI r) = some (x2, z) := fun z hz => by
      show bX11_refutes_0 N (d + 1038) (pI m2 16 0) (nI r) = _
      unfold bX11_refutes_0
      simp only [c_nm]
      rw [t3', nI_1]
      exact hz
    -- frames
    have fcx : Fr (fun k => k == 11) (fun k => k == 37) c2 x1 := (((Fr.rf c2).pi rfl).tr (f2w.mn (fun _ _ => rfl) (fun _ hk => hk))).tr (y1.mn (fun _ _ => rfl) (fun _ hk => hk))
    have fmx : Fr (fun k => k == 16) (fun k => k == 31 || k == 32) m2 x2 := ((Fr.rf m2).pi rfl).tr (z1.mn (fun _ _ => rfl) (fun _ hk => hk))
    have done : ∀ z f, (z = 0 ∨ z = 1) → (z = 1 → ∀ v, v < 4 → aI x1 37 v = f v) → II (t + 1) (pI x1 11 z) (pA (pI x2 16 z) 33 f) := by
      intro z f hz hf
      have fc : Fr (fun k => k == 11) (fun k => k == 37) c2 (pI x1 11 z) := fcx.pi rfl
      have fmm : Fr (fun k => k == 16) (fun k => k == 31 || k == 32 || k == 33) m2 (pA (pI x2 16 z) 33 f) := ((fmx.mn (fun _ hk => hk) (fun k hk => (Bool.or_eq_false_iff.mp hk).1)).pi rfl).pa rfl
      refine ⟨B2, R, j4, gr.ext j5, j6.k fc, j7.k fmm, rc2.k fc, rr2.k fmm, ru2.k fc fmm, rp2.k (Nat.le_refl _) fc fmm, ⟨n, t1, by rw [fc.1 10 rfl]; exact t2, by rw [fmm.1 15 rfl]; exact t3, hz, rfl, fun hz1 v hv => hf hz1 v hv, fun hn => ?_⟩, j10.k fc⟩
      rw [(fc.2 35 rfl).1, (fc.2 36 rfl).1, (fmm.2 29 rfl).1, (fmm.2 30 rfl).1]
      exact t7 hn
    cases hsc : scan (Qr B2 (tI (aI c2 35)) (n + 1) (R.2.1 r) (R.2.2.1 r)) ((n + 1) ^ 4) 0 with
    | none =>
      rw [ec 0 (y3 hsc), cl_s, em 0 (z3 hsc), cl_s, bo01 (Or.inl rfl), bo01 (Or.inl rfl)]
      obtain ⟨f, f1, f2⟩ := mCopyL (N := N) (d := d + 1039) N 0 (pI x2 16 0) (by omega) (by omega)
      have f3 : fX11_judge_75 N (d + 1039) N (pI x2 16 0) 0 = _ := f1
      have s1 : sI (pI x1 11 0) 11 = 0 := rfl
      have s2 : sI (pI x2 16 0) 16 = 0 := rfl
      rw [f3, if_pos s1, if_pos s2]
      exact ⟨_, _, _, rfl, rfl, done 0 f (Or.inl rfl) (fun z => absurd z (by decide))⟩
    | some c =>
      obtain ⟨y4, y5⟩ := y2 c hsc
      obtain ⟨z4, z5⟩ := z2 c hsc
      rw [ec 1 y4, cl_s, em 1 z4, cl_s, bo01 (Or.inr rfl), bo01 (Or.inr rfl)]
      obtain ⟨f, f1, f2⟩ := mCopyL (N := N) (d := d + 1039) N 0 (pI x2 16 1) (by omega) (by omega)
      have f3 : fX11_judge_75 N (d + 1039) N (pI x2 16 1) 0 = _ := f1
      have s1 : ¬ sI (pI x1 11 1) 11 = 0 := i10
      have s2 : ¬ sI (pI x2 16 1) 16 = 0 := i10
      rw [f3, if_neg s1, if_neg s2]
      refine ⟨_, _, _, rfl, rfl, done 1 f (Or.inr rfl) (fun _ v hv => ?_)⟩
      rw [f2 v hv, if_pos (Nat.zero_le _), y5 v hv]
      exact (z5 v hv).symm
  · rw [q, if_pos i00, if_pos i00]
    exact two_th rfl rfl h
