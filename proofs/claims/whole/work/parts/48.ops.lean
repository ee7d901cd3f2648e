theorem op_on {N d : Nat} : Op_on N (d + 5) II := by
  intro t wc wm x y _ hy h
  obtain ⟨B, R, G, gr, rb, rm, rc, rr, ru, rp, rt, rs⟩ := id h
  have key : eX10_on N (d + 5) wc x y = bX10_on_0 N (d + 4) wc x y := rfl
  have key2 : eX11_on N (d + 5) wm x y = bX11_on_0 N (d + 4) wm x y := rfl
  have g1 := gr.1
  rw [key, key2]
  unfold bX10_on_0 bX11_on_0 bX10_on_40 bX11_on_30
  simp only [c_pi]
  have rr2 : RRm R (pI wm 0 0) := rr
  rw [cIsRule rc, cl_s, mIsRule g1 rr2, cl_s]
  rcases iw_cases (n := R.1) (by omega) x with ⟨i, hi, e, q⟩ | ⟨_, q⟩
  · rw [q, if_neg i10, if_neg i10, e]
    have hr := rc.2 i hi
    have hm := rr2.2 i hi
    rw [ld_n (by omega) (by omega), sz_n (by omega) (by omega), ld_n (by omega) (by omega), hr.2.2, hm.2.2]
    have yb : ∃ z, y = b2 z ∧ vp_nar .boolean y = b2 z := by
      rcases hy with q | q
      · exact ⟨false, q, by rw [q]; rfl⟩
      · exact ⟨true, q, by rw [q]; rfl⟩
    obtain ⟨z, hz, hz2⟩ := yb
    rw [hz2]
    have fin : II (t + 1) (pA wc 25 (upd (aI wc 25) i (b2 z))) (pA (pI wm 0 0) 11 (upd (aI (pI wm 0 0) 11) i (b2 z))) := by
      refine ⟨B, (R.1, R.2.1, R.2.2.1, fu R.2.2.2 i z), G, gr, rb, rm, ⟨rc.1, fun r h1 => ?_⟩, ⟨rr.1, fun r h1 => ?_⟩, ru, rp, rt, rs.up⟩
      · have := rc.2 r h1
        refine ⟨this.1, this.2.1, ?_⟩
        show upd (aI wc 25) i (b2 z) r = b2 (fu R.2.2.2 i z r)
        by_cases q2 : r = i
        · rw [q2, upd_s, fu_s]
        · rw [upd_n q2, fu_n q2]; exact this.2.2
      · have := rr.2 r h1
        refine ⟨this.1, this.2.1, ?_⟩
        show upd (aI wm 11) i (b2 z) r = b2 (fu R.2.2.2 i z r)
        by_cases q2 : r = i
        · rw [q2, upd_s, fu_s]
        · rw [upd_n q2, fu_n q2]; exact this.2.2
    by_cases q3 : b2 (R.2.2.2 i) = 0
    · rw [if_pos q3, if_pos q3, sz_n (by omega) (by omega), hz2]
      exact ⟨_, _, _, rfl, rfl, fin⟩
    · rw [if_neg q3, if_neg q3, sz_n (by omega) (by omega), hz2]
      exact ⟨_, _, _, rfl, rfl, fin⟩
  · rw [q, if_pos i00, if_pos i00]
    exact two_th rfl rfl h
theorem op_used {N d : Nat} : Op_used N (d + 5) II := by
  intro t wc wm x y _ h
  obtain ⟨B, R, G, gr, rb, rm, rc, rr, ⟨k, u1, u2, u3, u4⟩, rp, rt, rs⟩ := id h
  have key : eX10_used N (d + 5) wc x y = bX10_used_0 N (d + 4) wc x y := rfl
  have key2 : eX11_used N (d + 5) wm x y = bX11_used_0 N (d + 4) wm x y := rfl
  rw [key, key2]
  unfold bX10_used_0 bX11_used_0 bX10_used_70 bX11_used_74
  simp only [c_pi]
  rw [iw_k 2 (y := 2) rfl, cl_s, in_k 2 (y := 1) (by omega) (by decide), cl_s]
  have u5 : sI (pI wm 0 0) 8 = nI k := u3
  rcases iw_cases (n := 2) (by omega) y with ⟨i, hi, e, q⟩ | ⟨_, q⟩
  · rw [q, if_neg i10, if_neg i10]
    by_cases hx : x = -1
    · rw [if_pos hx, if_pos hx, u2, u5]
      exact two_th rfl rfl h
    · rw [if_neg hx, if_neg hx, iw_k k u2, cl_s, u5, in_n (by omega), cl_s]
      rcases iw_cases (n := k) (by omega) x with ⟨j, hj, e2, q2⟩ | ⟨_, q2⟩
      · rw [q2, if_neg i10, if_neg i10, e2]
        by_cases q3 : y = 0
        · rw [if_pos q3, if_pos q3, ld_n (by omega) (by omega), ld_n (by omega) (by omega), (u4 j hj).1]
          exact two_th rfl rfl h
        · rw [if_neg q3, if_neg q3, ll_n (by omega) (by omega), ll_n (by omega) (by omega), (u4 j hj).2]
          exact two_th rfl rfl h
      · rw [q2, if_pos i00, if_pos i00]
        exact two_th rfl rfl h
  · rw [q, if_pos i00, if_pos i00]
    exact two_th rfl rfl h
theorem op_count {N d : Nat} : Op_count N (d + 5) II := by
  intro t wc wm x _ h
  obtain ⟨B, R, G, gr, rb, rm, rc, rr, ru, ⟨k, st, fs, p1, p2, p3, p4, p5, p6, p7⟩, ⟨n, t1, t2, t3, t4⟩, rs⟩ := id h
  have key : eX10_count N (d + 5) wc x = bX10_count_0 N (d + 4) wc x := rfl
  have key2 : eX11_count N (d + 5) wm x = bX11_count_0 N (d + 4) wm x := rfl
  rw [key, key2]
  unfold bX10_count_0 bX11_count_0
  simp only [c_pi]
  have e1 : sI (pI wm 0 0) 1 = sI wc 0 := rm.1.trans rb.1.symm
  have e2 : sI (pI wm 0 0) 2 = sI wc 1 := rm.2.1.trans rb.2.1.symm
  have e3 : sI (pI wm 0 0) 3 = sI wc 2 := rr.1.trans rc.1.symm
  have e4 : sI (pI wm 0 0) 13 = sI wc 15 := p6.trans p3.symm
  have e5 : sI (pI wm 0 0) 15 = sI wc 10 := t3.trans t2.symm
  rw [e1, e2, e3, e4, e5]
  repeat' split
  all_goals exact two_th rfl rfl h
theorem op_refuted {N d : Nat} : Op_refuted N (d + 5) II := by
  intro t wc wm x _ h
  obtain ⟨B, R, G, gr, rb, rm, rc, rr, ru, rp, ⟨n, t1, t2, t3, t4, t5, t6, t7⟩, rs⟩ := id h
  have key : eX10_refuted N (d + 5) wc x = bX10_refuted_0 N (d + 4) wc x := rfl
  have key2 : eX11_refuted N (d + 5) wm x = bX11_refuted_0 N (d + 4) wm x := rfl
  rw [key, key2]
  unfold bX10_refuted_0 bX11_refuted_0 bX10_refuted_34 bX11_refuted_39
  simp only [c_pi]
  rw [iw_k 4 (y := 4) rfl, cl_s, in_k 4 (y := 3) (by omega) (by decide), cl_s]
  have t8 : sI (pI wm 0 0) 16 = sI wc 11 := t5
  rcases iw_cases (n := 4) (by omega) x with ⟨i, hi, e, q⟩ | ⟨_, q⟩
  · rw [q, if_neg i10]
    try rw [if_neg i10]
    rw [t8]
    by_cases q2 : sI wc 11 = 0
    · rw [if_pos q2, if_pos q2]
      exact two_th rfl rfl h
    · rw [if_neg q2, if_neg q2, e, ld_n (by omega) (by omega), ld_n (by omega) (by omega)]
      have : aI (pI wm 0 0) 33 i = aI wc 37 i := (t6 (t4.resolve_left q2) i hi).symm
      rw [this]
      exact two_th rfl rfl h
  · rw [q, if_pos i00, if_pos i00]
    exact two_th rfl rfl h
