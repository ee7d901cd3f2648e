theorem cWrite {N d s i j : Nat} {w : Wd} {x : Int32} (hs : s < 10) (hi : i ≤ 3) (hj : j ≤ 3) : eX7_write N (d + 2) w (nI s) (nI i) (nI j) x = some (pA w 35 (upd (aI w 35) (16 * s + 4 * i + j) x), aI w 35 (16 * s + 4 * i + j)) := by
  show bX7_write_0 N (d + 1) w _ _ _ x = _
  unfold bX7_write_0
  have e : eX7_cellAt N (d + 1) w (nI s) (nI i) (nI j) = some (w, nI (16 * s + 4 * i + j)) := by
    show some (w, (((nI s * 4) + nI i) * 4) + nI j) = _
    rw [show (4 : Int32) = nI 4 from rfl, pk_mul, nI_add, pk_mul, nI_add]
    congr 3
    omega
  rw [e, cl_s, ld_n (by omega) (by omega), st_n (by omega) (by omega)]
theorem op_cell {N d : Nat} : Op_cell N (d + 6) II := by
  intro t wc wm x y z v _ h
  obtain ⟨B, R, G, gr, rb, rm, rc, rr, ru, rp, ⟨n, t1, t2, t3, t4, t5, t6, t7⟩, rs⟩ := id h
  have key : eX10_cell N (d + 6) wc x y z v = bX10_cell_0 N (d + 5) wc x y z v := rfl
  have key2 : eX11_cell N (d + 6) wm x y z v = bX11_cell_0 N (d + 5) wm x y z v := rfl
  have t8 : sI (pI wm 0 0) 15 = nI n := t3
  have g2 := G.2.1
  have rm2 : RM B (pI wm 0 0) := rm
  rw [key, key2]
  unfold bX10_cell_0 bX11_cell_0 bX10_cell_36 bX10_cell_63 bX10_cell_77 bX10_cell_80 bX10_cell_95 bX10_cell_106 bX11_cell_48
  simp only [c_pi]
  by_cases q0 : n = 0
  · refine two_th (r := -3) ?_ ?_ h
    · rw [if_pos (by rw [t2]; exact (n0 t1).mpr q0)]
    · rw [if_pos (by rw [t8]; exact (n0 t1).mpr q0)]
  have e1 : ¬ sI wc 10 = 0 := fun z => q0 ((n0 t1).mp (t2.symm.trans z))
  have e2 : ¬ sI (pI wm 0 0) 15 = 0 := fun z => q0 ((n0 t1).mp (t8.symm.trans z))
  rw [if_neg e1, if_neg e2, iw_k (sB B) rb.1, cl_s, rm2.1, in_n (by omega), cl_s]
  rcases iw_cases (n := sB B) (by omega) x with ⟨k, hk, e, q⟩ | ⟨_, q⟩
  · rw [q, if_neg i10, if_neg i10, e]
    have L1 : ∀ K : Int32 → Option (Wd × Int32), c_ld wc 12 18 (nI k) K = K (nI (arB B k)) := fun K => by rw [ld_n (by omega) (by omega), (rb.2.2.1 k (Or.inl hk)).1]
    have L2 : ∀ K : Int32 → Option (Wd × Int32), c_ld (pI wm 0 0) 1 10 (nI k) K = K (nI (arB B k)) := fun K => by rw [ld_n (by omega) (by omega), (rm2.2.2.2.1 k hk).1]
    have T1 : ∀ x, eX10_isValue N (d + 5) wc x = _ := fun x => cIsValue t2
    have g3 := G.2.2.1 k hk
    have l0 : nI (arB B k) ≤ 0 ↔ arB B k = 0 := by rw [show (0 : Int32) = nI 0 from rfl, nI_leI (by omega) (by omega)]; omega
    have l1 : nI (arB B k) ≤ 1 ↔ arB B k ≤ 1 := by rw [show (1 : Int32) = nI 1 from rfl, nI_leI (by omega) (by omega)]
    have M : ∀ x5 y0, _ := fun x5 y0 => mc65 (N := N) (d := d + 4) (w := pI wm 0 0) (x1 := nI k) (x4 := v) (x5 := x5) (y0 := y0) t1 t8
    obtain ⟨c1, c2, c3⟩ := t7 (by omega)
    have leaf : ∀ (a b : Int32), okV n a → okV n b → okV n v → ∃ (wc2 wm2 : Wd) (r : Int32), eX7_write N (d + 5) wc (nI k) a b v = some (wc2, r) ∧ bX11_cell_65 N (d + 5) (pI wm 0 0) (nI k) v a b = some (wm2, r) ∧ II (t + 1) wc2 wm2 := by
      intro a b oa ob ov
      obtain ⟨i, hi, ei⟩ := oa
      obtain ⟨j, hj, ej⟩ := ob
      obtain ⟨u, hu, eu⟩ := ov
      rw [ei, ej, cWrite (by omega) (by omega) (by omega), (M (nI i) (nI j)).1 ⟨i, hi, rfl⟩ ⟨j, hj, rfl⟩ ⟨u, hu, eu⟩]
      have ix : (16 * nI k + 4 * nI i) + nI j = nI (16 * k + 4 * i + j) := by
        rw [show (16 : Int32) = nI 16 from rfl, show (4 : Int32) = nI 4 from rfl, pk_mul, pk_mul, nI_add, nI_add]
      rw [ix, ld_n (by omega) (by omega), st_n (by omega) (by omega)]
      refine ⟨_, _, _, rfl, congrArg (fun z => some (_, z)) (c1 _ (by omega)).1, B, R, G, gr, rb, rm, rc, rr, ru, rp, ⟨n, t1, t2, t3, t4, t5, t6, fun _ => ⟨fun p hp => ?_, fun p hp hp2 => ?_, c3⟩⟩, rs.up⟩
      · show upd (aI wm 29) (16 * k + 4 * i + j) v p = upd (aI wc 35) (16 * k + 4 * i + j) v p ∧ ∃ x, x ≤ n ∧ upd (aI wc 35) (16 * k + 4 * i + j) v p = nI x
        by_cases ev : p = 16 * k + 4 * i + j
        · rw [ev, upd_s, upd_s]; exact ⟨rfl, u, hu, eu⟩
        · rw [upd_n ev, upd_n ev]; exact c1 p hp
      · show upd (aI wc 35) (16 * k + 4 * i + j) v p = 0
        rw [upd_n (by omega)]
        exact c2 p hp hp2
    simp only [L1, L2, T1, cl_s]
    rcases okV_cases t1 v with ⟨ov, qv⟩ | ⟨ov, qv⟩
    · by_cases a0 : arB B k = 0
      · have f0 := l0.mpr a0
        have f1 := l1.mpr (by omega)
        obtain ⟨c2, m2, r, e1, e2, e3⟩ := leaf 0 0 okV0 okV0 ov
        refine ⟨c2, m2, r, ?_, ?_, e3⟩
        · simp only [qv, i10, f0, f1, if_true, if_false, e1, cl_s]
        · simp only [f0, f1, if_true, e2]
      · have f0 : ¬ nI (arB B k) ≤ 0 := fun z => a0 (l0.mp z)
        rcases okV_cases t1 y with ⟨oy, qy⟩ | ⟨oy, qy⟩
        · by_cases a1 : arB B k ≤ 1
          · have f1 := l1.mpr a1
            obtain ⟨c2, m2, r, e1, e2, e3⟩ := leaf y 0 oy okV0 ov
            refine ⟨c2, m2, r, ?_, ?_, e3⟩
            · simp only [qv, qy, i10, f0, f1, if_true, if_false, e1, cl_s]
            · simp only [f0, f1, if_true, if_false, e2]
          · have f1 : ¬ nI (arB B k) ≤ 1 := fun z => a1 (l1.mp z)
            rcases okV_cases t1 z with ⟨oz, qz⟩ | ⟨oz, qz⟩
            · obtain ⟨c2, m2, r, e1, e2, e3⟩ := leaf y z oy oz ov
              refine ⟨c2, m2, r, ?_, ?_, e3⟩
              · simp only [qv, qy, qz, i10, f0, f1, if_false, e1, cl_s]
              · simp only [f0, f1, if_false, e2]
            · refine two_th (r := -2) ?_ ?_ h
              · simp only [qv, qy, qz, i10, f0, f1, if_true, if_false]
              · simp only [f0, f1, if_false]
                exact (M y z).2 (fun c => oz c.2.1)
        · refine two_th (r := -2) ?_ ?_ h
          · simp only [qv, qy, i10, f0, if_true, if_false]
          · simp only [f0, if_false]
            split
            · exact (M y 0).2 (fun c => oy c.1)
            · exact (M y z).2 (fun c => oy c.1)
    · refine two_th (r := -2) ?_ ?_ h
      · simp only [qv, if_true]
      · split
        · split
          · exact (M 0 0).2 (fun c => ov c.2.2)
          · exact (M 0 z).2 (fun c => ov c.2.2)
        · split
          · exact (M y 0).2 (fun c => ov c.2.2)
          · exact (M y z).2 (fun c => ov c.2.2)
  · rw [q, if_pos i00, if_pos i00]
    exact two_th rfl rfl h
theorem op_part {N d : Nat} : Op_part N (d + 5) II := by
  intro t wc wm x y _ h
  obtain ⟨B, R, G, gr, rb, rm, rc, rr, ru, rp, rt, rs⟩ := id h
  have g1 := G.1
  have g2 := G.2.1
  have rm2 : RM B (pI wm 0 0) := rm
  have key : eX10_part N (d + 5) wc x y = c_cl (eX10_isTerm N (d + 4) wc x) fun w1 v2 => if v2 = 0 then some (w1, some (-2)) else (c_ld w1 14 1000 x fun v3 => c_ld w1 12 18 v3 fun v4 => c_cl (eX10_isWithin N (d + 4) w1 y v4) fun w5 v6 => if v6 = 0 then some (w5, none) else bX10_part_45 w5 x y) := rfl
  have key2 : eX11_part N (d + 5) wm x y = bX11_part_0 N (d + 4) wm x y := rfl
  rw [key, key2]
  unfold bX11_part_0 bX11_part_34 bX11_part_35 bX11_part_55 bX10_part_45
  simp only [c_pi]
  rw [cIsTerm rb, cl_s, mIsTerm G rm2, cl_s]
  have fin : ∀ k : Int32, II (t + 1) wc (pI (pI wm 0 0) 0 k) := fun k => h.up.th.th
  rcases iw_cases (n := nB B) (by omega) x with ⟨k, hk, e, q⟩ | ⟨_, q⟩
  · rw [q, if_neg i10, if_neg i10, e]
    have hal := G.a_le hk
    have h5 := G.2.2.2.2.1 k hk
    have hnp : npB B k ≤ 2 := by
      rcases h5.1 with z | z
      · exact (G.2.2.1 _ z).1
      · show arB B (hB B k) ≤ 2
        rw [(G.2.2.2.1 _ z.1).1]; omega
    have e12 : aI wc 12 (hB B k) = nI (npB B k) := (rb.2.2.1 _ h5.1).1
    rw [ld_n (by omega) (by omega), (rb.2.2.2.1 k hk).1, ld_n (by omega) (by omega), e12, iw_eq, cl_s, mParts G rm2 hk, cl_s]
    by_cases q1 : y < 0
    · simp only [q1, if_true]
      exact ⟨wc, pI (pI wm 0 0) 0 1, pI (pI wm 0 0) 0 1, none, 0, 1, rfl, by rw [sI_pI, if_pos rfl, if_neg (by decide)], rfl, Or.inr ⟨rfl, rfl⟩, fin 1⟩
    · by_cases q2 : nI (npB B k) ≤ y
      · simp only [q1, q2, if_true, if_false]
        exact ⟨wc, pI (pI wm 0 0) 0 1, pI (pI wm 0 0) 0 1, none, 0, 1, rfl, by rw [sI_pI, if_pos rfl, if_neg (by decide)], rfl, Or.inr ⟨rfl, rfl⟩, fin 1⟩
      · simp only [q1, q2, i10, if_false]
        rw [sI_pI, if_pos rfl, if_pos (show (0 : Int32) ≤ 0 by decide)]
        have rm3 : RM B (pI (pI wm 0 0) 0 0) := rm
        by_cases q3 : y = 0
        · rw [if_pos q3, ld_n (by omega) (by omega), (rb.2.2.2.1 k hk).2.1, q3, mPartOf0 G rm3 hk, cl_s]
          exact ⟨wc, pI (pI wm 0 0) 0 0, pI (pI wm 0 0) 0 0, _, _, 0, rfl, rfl, rfl, Or.inl ⟨rfl, rfl⟩, fin 0⟩
        · rw [if_neg q3, ld_n (by omega) (by omega), (rb.2.2.2.1 k hk).2.2.1, mPartOf1 q3 G rm3 hk, cl_s]
          exact ⟨wc, pI (pI wm 0 0) 0 0, pI (pI wm 0 0) 0 0, _, _, 0, rfl, rfl, rfl, Or.inl ⟨rfl, rfl⟩, fin 0⟩
  · rw [q, if_pos i00, if_pos i00]
    exact ⟨wc, pI wm 0 0, pI wm 0 0, some (-2), -2, 0, rfl, rfl, rfl, Or.inl ⟨rfl, rfl⟩, h.up.th⟩
