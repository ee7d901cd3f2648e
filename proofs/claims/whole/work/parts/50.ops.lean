/-! values -/
def okV (n : Nat) (x : Int32) : Prop := ∃ i, i ≤ n ∧ x = nI i
theorem okV_cases {n : Nat} (hn : n ≤ 3) (x : Int32) : (okV n x ∧ (if x < 0 then (0 : Int32) else if nI (n + 1) ≤ x then 0 else 1) = 1) ∨ (¬ okV n x ∧ (if x < 0 then (0 : Int32) else if nI (n + 1) ≤ x then 0 else 1) = 0) := by
  rcases iw_cases (n := n + 1) (by omega) x with ⟨i, h1, h2, h3⟩ | ⟨h1, h2⟩
  · exact Or.inl ⟨⟨i, by omega, h2⟩, h3⟩
  · exact Or.inr ⟨fun ⟨i, h3, h4⟩ => h1 i (by omega) h4, h2⟩
theorem cIsValue {N d n : Nat} {w : Wd} {x : Int32} (h : sI w 10 = nI n) : eX10_isValue N (d + 2) w x = some (w, if x < 0 then 0 else if nI (n + 1) ≤ x then 0 else 1) := by
  show bX10_isValue_0 N (d + 1) w x = _
  unfold bX10_isValue_0 c_bo
  rw [iw_k (n + 1) (by rw [h, nI_1]), cl_s]
  split
  · rfl
  · split <;> rfl
theorem mIsValue {N d n : Nat} {w : Wd} {x : Int32} (hn : n ≤ 3) (h : sI w 15 = nI n) : eX11_in N (d + 1) w x.toInt64 0 (sI w 15).toInt64 = some (w, if x < 0 then 0 else if nI (n + 1) ≤ x then 0 else 1) :=
  in_k (n + 1) (by omega) (by rw [h, nI_pred])
theorem n0 {n : Nat} (hn : n ≤ 3) : nI n = 0 ↔ n = 0 := by rw [show (0 : Int32) = nI 0 from rfl, nI_eq (by omega) (by omega)]
theorem op_has {N d : Nat} : Op_has N (d + 5) II := by
  intro t wc wm x y _ h
  obtain ⟨B, R, G, gr, rb, rm, rc, rr, ru, rp, ⟨n, t1, t2, t3, t4, t5, t6, t7⟩, rs⟩ := id h
  have key : eX10_has N (d + 5) wc x y = bX10_has_0 N (d + 4) wc x y := rfl
  have key2 : eX11_has N (d + 5) wm x y = bX11_has_0 N (d + 4) wm x y := rfl
  have t8 : sI (pI wm 0 0) 15 = nI n := t3
  rw [key, key2]
  unfold bX10_has_0 bX11_has_0 bX10_has_30 bX11_has_41
  simp only [c_pi]
  by_cases q0 : n = 0
  · refine two_th (r := -3) ?_ ?_ h
    · rw [if_pos (by rw [t2]; exact (n0 t1).mpr q0)]
    · rw [if_pos (by rw [t8]; exact (n0 t1).mpr q0)]
  · have e1 : ¬ sI wc 10 = 0 := fun z => q0 ((n0 t1).mp (t2.symm.trans z))
    have e2 : ¬ sI (pI wm 0 0) 15 = 0 := fun z => q0 ((n0 t1).mp (t8.symm.trans z))
    rw [if_neg e1, if_neg e2, iw_k 8 (y := 8) rfl, cl_s, in_k 8 (y := 7) (by omega) (by decide), cl_s, cIsValue t2, cl_s, mIsValue t1 t8, cl_s]
    rcases iw_cases (n := 8) (by omega) x with ⟨i, hi, e, q⟩ | ⟨_, q⟩
    · rcases okV_cases t1 y with ⟨⟨j, hj, ej⟩, p⟩ | ⟨_, p⟩
      · obtain ⟨c1, c2, c3⟩ := t7 (by omega)
        refine ⟨pA wc 36 (upd (aI wc 36) i y), pA (pI wm 0 0) 30 (upd (aI (pI wm 0 0) 30) i y), aI wc 36 i, ?_, ?_, ?_⟩
        · simp only [q, p, i10, if_false]
          rw [e, ld_n (by omega) (by omega), st_n (by omega) (by omega)]
        · simp only [q, p, i10, if_false]
          rw [e, ld_n (by omega) (by omega), st_n (by omega) (by omega)]
          exact congrArg (fun z => some (_, z)) (c3 i hi).1
        · refine ⟨B, R, G, gr, rb, rm, rc, rr, ru, rp, ⟨n, t1, t2, t3, t4, t5, t6, fun _ => ⟨c1, c2, fun v hv => ?_⟩⟩, rs.up⟩
          show upd (aI wm 30) i y v = upd (aI wc 36) i y v ∧ ∃ x, x ≤ n ∧ upd (aI wc 36) i y v = nI x
          by_cases ev : v = i
          · rw [ev, upd_s, upd_s]; exact ⟨rfl, j, hj, ej⟩
          · rw [upd_n ev, upd_n ev]; exact c3 v hv
      · refine two_th (r := -2) ?_ ?_ h
        · simp only [q, p, i10, if_true, if_false]
        · simp only [q, p, i10, if_true, if_false]
    · refine two_th (r := -2) ?_ ?_ h
      · simp only [q, if_true]
      · simp only [q, if_true]
theorem tablesL2 {N d : Nat} {x : Int32} : ∀ m j w, j ≤ 8 → 8 < m + j → fX11_tables_49 N d m w x (nI j) = some (pA w 30 (fil (aI w 30) j 8 0), x) := by
  intro m
  induction m with
  | zero => intro j w h1 h2; omega
  | succ m ih =>
    intro j w h1 h2
    show bX11_tables_49 N d (fX11_tables_49 N d m) w x (nI j) = _
    unfold bX11_tables_49
    simp only [c_nm]
    by_cases e : 8 ≤ j
    · rw [if_pos (by rw [show (8 : Int32) = nI 8 from rfl, nI_leI (by omega) (by omega)]; exact e)]
      rw [pA_self (f := fil (aI w 30) j 8 0) (funext fun i => fil_out (by omega))]
    · rw [if_neg (fun z => e (by rw [show (8 : Int32) = nI 8 from rfl, nI_leI (by omega) (by omega)] at z; exact z)), st_n (by omega) (by omega), nI_1, ih (j + 1) (pA w 30 (upd (aI w 30) j 0)) (by omega) (by omega), pA_pA]
      congr 3
      funext i
      show (if j + 1 ≤ i ∧ i < 8 then (0 : Int32) else aI (pA w 30 _) 30 i) = _
      rw [aI_pA, if_pos rfl]
      by_cases q : j + 1 ≤ i ∧ i < 8
      · rw [if_pos q, fil_in (by omega) q.2]
      · rw [if_neg q]
        by_cases q2 : i = j
        · rw [q2, upd_s, fil_in (by omega) (by omega)]
        · rw [upd_n q2, fil_out (by omega)]
theorem tablesL1 {N d : Nat} {x : Int32} (hN : 2000000 ≤ N) : ∀ m j w, j ≤ 160 → 160 < m + j → fX11_tables_27 N d m w x (nI j) = some (pA (pA w 29 (fil (aI w 29) j 160 0)) 30 (fil (aI w 30) 0 8 0), x) := by
  intro m
  induction m with
  | zero => intro j w h1 h2; omega
  | succ m ih =>
    intro j w h1 h2
    show bX11_tables_27 N d (fX11_tables_27 N d m) w x (nI j) = _
    unfold bX11_tables_27
    simp only [c_nm]
    by_cases e : 160 ≤ j
    · rw [if_pos (by rw [show (160 : Int32) = nI 160 from rfl, nI_leI (by omega) (by omega)]; exact e)]
      have h0 : fX11_tables_49 N d N w x 0 = _ := tablesL2 N 0 w (by omega) (by omega)
      rw [h0, pA_self (f := fil (aI w 29) j 160 0) (funext fun i => fil_out (by omega))]
    · rw [if_neg (fun z => e (by rw [show (160 : Int32) = nI 160 from rfl, nI_leI (by omega) (by omega)] at z; exact z)), st_n (by omega) (by omega), nI_1, ih (j + 1) (pA w 29 (upd (aI w 29) j 0)) (by omega) (by omega), pA_pA]
      congr 3
      congr 1
      funext i
      show (if j + 1 ≤ i ∧ i < 160 then (0 : Int32) else aI (pA w 29 _) 29 i) = _
      rw [aI_pA, if_pos rfl]
      by_cases q : j + 1 ≤ i ∧ i < 160
      · rw [if_pos q, fil_in (by omega) q.2]
      · rw [if_neg q]
        by_cases q2 : i = j
        · rw [q2, upd_s, fil_in (by omega) (by omega)]
        · rw [upd_n q2, fil_out (by omega)]
theorem op_tables {N d : Nat} (hN : 2000000 ≤ N) : Op_tables N (d + 5) II := by
  intro t wc wm x _ h
  obtain ⟨B, R, G, gr, rb, rm, rc, rr, ru, rp, ⟨n, t1, t2, t3, t4, t5, t6, t7⟩, rs⟩ := id h
  have key : eX10_tables N (d + 5) wc x = bX10_tables_0 N (d + 4) wc x := rfl
  have key2 : eX11_tables N (d + 5) wm x = bX11_tables_0 N (d + 4) wm x := rfl
  rw [key, key2]
  unfold bX10_tables_0 bX11_tables_0 bX10_tables_10
  simp only [c_pi]
  rw [in_lit (lo := 1) (hi := 3) (by decide) (by decide), cl_s]
  by_cases q3 : x < 1
  · rw [if_pos q3, if_pos q3, if_pos i00]; exact two_th rfl rfl h
  rw [if_neg q3, if_neg q3]
  by_cases q4 : 3 < x
  · rw [if_neg (fun z => by rw [Int32.lt_iff_toInt_lt] at q4; rw [Int32.le_iff_toInt_le] at z; omega), if_pos q4, if_pos i00]; exact two_th rfl rfl h
  rw [if_pos (by rw [Int32.lt_iff_toInt_lt] at q4; rw [Int32.le_iff_toInt_le]; omega), if_neg q4, if_neg i10]
  obtain ⟨a, a1, a2, ax⟩ := rng (lo := 1) (hi := 3) (by omega) q3 q4 (by omega)
  have e1 : eX7_begin N (d + 4) wc x = some (pA (pA (pI wc 10 x) 35 (fil (aI wc 35) 0 160 0)) 36 (fil (aI wc 36) 0 8 0)) := by
    show bX7_begin_0 N (d + 3) wc x = _
    unfold bX7_begin_0
    simp only [c_pi]
    rw [fill35 hN, cv_s, fill36 hN, cv_s]
    rfl
  have e2 : fX11_tables_27 N (d + 4) N (pI (pI wm 0 0) 15 x) x 0 = _ := tablesL1 hN N 0 (pI (pI wm 0 0) 15 x) (by omega) (by omega)
  rw [e1, cv_s, e2]
  refine ⟨_, _, x, rfl, rfl, B, R, G, gr, rb, rm, rc, rr, ru, rp, ⟨a, a2, ax, ax, t4, t5, t6, fun _ => ⟨fun j hj => ?_, fun j _ hj => ?_, fun v hv => ?_⟩⟩, rs.up⟩
  · show fil (aI wm 29) 0 160 0 j = fil (aI wc 35) 0 160 0 j ∧ ∃ x, x ≤ a ∧ fil (aI wc 35) 0 160 0 j = nI x
    rw [fil_in (by omega) hj, fil_in (by omega) hj]
    exact ⟨rfl, 0, by omega, rfl⟩
  · show fil (aI wc 35) 0 160 0 j = 0
    rw [fil_in (by omega) hj]
  · show fil (aI wm 30) 0 8 0 v = fil (aI wc 36) 0 8 0 v ∧ ∃ x, x ≤ a ∧ fil (aI wc 36) 0 8 0 v = nI x
    rw [fil_in (by omega) hv, fil_in (by omega) hv]
    exact ⟨rfl, 0, by omega, rfl⟩
theorem mc65 {N d n : Nat} {w : Wd} {x1 x4 x5 y0 : Int32} (hn : n ≤ 3) (h : sI w 15 = nI n) :
    (okV n x5 → okV n y0 → okV n x4 → bX11_cell_65 N (d + 1) w x1 x4 x5 y0 = c_ld w 29 160 (((16 * x1) + (4 * x5)) + y0) fun v => c_st w 29 160 (((16 * x1) + (4 * x5)) + y0) x4 fun w2 => some (w2, v)) ∧
    (¬ (okV n x5 ∧ okV n y0 ∧ okV n x4) → bX11_cell_65 N (d + 1) w x1 x4 x5 y0 = some (w, -2)) := by
  unfold bX11_cell_65 bX11_cell_112
  rw [mIsValue hn h, cl_s, mIsValue hn h, cl_s, mIsValue hn h, cl_s]
  simp only [c_nm]
  rcases okV_cases hn x5 with ⟨p, q⟩ | ⟨p, q⟩
  · rcases okV_cases hn y0 with ⟨p2, q2⟩ | ⟨p2, q2⟩
    · rcases okV_cases hn x4 with ⟨p3, q3⟩ | ⟨p3, q3⟩
      · simp only [q, q2, q3, i10, if_false]
        exact ⟨fun _ _ _ => trivial, fun z => absurd ⟨p, p2, p3⟩ z⟩
      · simp only [q, q2, q3, i10, if_false, if_true]
        exact ⟨fun _ _ z => absurd z p3, fun _ => trivial⟩
    · simp only [q, q2, i10, if_false, if_true]
      exact ⟨fun _ z _ => absurd z p2, fun _ => trivial⟩
  · simp only [q, if_true]
    exact ⟨fun z _ _ => absurd z p, fun _ => trivial⟩
theorem okV0 {n : Nat} : okV n 0 := ⟨0, Nat.zero_le _, rfl⟩
